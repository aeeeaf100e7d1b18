section BY
variable {p : Program} {l : Launch} {e : Env} {s : State} {m : MethodId} {args : Array Value} {below : List Frame} {meth : Method} {c : Code} {D : va_G} {cl : List vw_C} {cA : Nat → ClassId} {ad : Nat → Nat} {A : Nat → Prop} {M : bM} {TW : List Cond} {MT : List bM}
theorem bget_ok {w : bW} {b t n : Nat} {f : Nat → Int32} (hw : w[b]? = some (.inl (t, n, f))) : (bws ad cA w)[b]? = some (ad b, .inl (cA t, n, .inl f)) := bws_get hw
theorem bgetJ_ok {w : bW} {b n : Nat} {f : Nat → Int64} (hw : w[b]? = some (.inr (.inl (n, f)))) : (bws ad cA w)[b]? = some (ad b, .inl (cA 3, n, .inr (.inl f))) := bws_get hw
theorem bgetO_ok {w : bW} {b ci : Nat} {fs : List Value} (hw : w[b]? = some (.inr (.inr (ci, fs)))) : (bws ad cA w)[b]? = some (ad b, .inr (ci, fs.map (bg ad))) := bws_get hw
theorem bsetO {w : bW} {b ci k : Nat} {fs : List Value} {v : Value} : (bws ad cA w).set b (ad b, .inr (ci, (fs.map (bg ad)).set k (bg ad v))) = bws ad cA (bup w b (.inr (.inr (ci, fs.set k v)))) := by
  rw [← List.map_set]
  exact bws_set (c := .inr (.inr (ci, fs.set k v)))
theorem bkd_ok {kd : Nat} {v : Value} {ty0 : Option FieldType} (h : bkd kd v = true) (h0 : kd = 0 → ty0 = some .int) (h1 : kd = 1 → ty0 = some .boolean) (h2 : kd = 2 → ∃ o, ty0 = some (.object o)) : ∃ ty, ty0 = some ty ∧ narrow ty (bg ad v) = bg ad v ∧ fits ty (bg ad v) = true ∧ kd < 3 := by
  unfold bkd at h
  split at h
  · exact ⟨_, h0 rfl, rfl, rfl, by decide⟩
  · rename_i x
    refine ⟨_, h1 rfl, ?_, ?_, by decide⟩
    · simp only [Bool.or_eq_true, beq_iff_eq] at h
      rcases h with rfl | rfl
      · exact (by decide : narrow FieldType.boolean (Value.int 0) = Value.int 0)
      · exact (by decide : narrow FieldType.boolean (Value.int 1) = Value.int 1)
    · exact h
  · obtain ⟨o, ho⟩ := h2 rfl
    exact ⟨_, ho, rfl, rfl, by decide⟩
  · cases h
set_option maxHeartbeats 4000000 in
theorem bsw_ok {R : Room} {Q : State → Prop} {H : Heap} {locs : List Loc} {ls : Array Slot} {pc len : Nat} {rest : List Value} {x : Int32} {dflt lo0 hi : Int} {offs : Array Int} {r : bR} {k : Nat → Option bR} (hx : p.tables.exec = Jvm.exec) {cc : ByteArray} (hb : c.code = cc) (hd : decode cc pc = .ok (.tableswitch dflt lo0 hi offs, len)) (hh : hi = lo0 + offs.toList.length - 1)
    (hk : ∀ t, k t = some r → W p l e R s m args below meth c H locs 0 0 Q (F0 m t ls rest)) : ∀ (os : List Int) (j : Nat), offs.toList.drop j = os → ¬ x.toInt < lo0 → (∀ i : Nat, i < j → ¬ x.toInt = lo0 + i) → bsw pc x dflt k (lo0 + j) os = some r → W p l e R s m args below meth c H locs 0 0 Q (F0 m pc ls (.int x :: rest))
  | [], j, hj, hlo, hn, h => by
    obtain ⟨t, h1, h2⟩ := btgt_some h
    refine lv_tableOut hx hb hd (Or.inr ?_) h1 (hk t h2)
    have hlen : offs.toList.length ≤ j := List.drop_eq_nil_iff.mp hj
    have hlo2 : lo0 ≤ x.toInt := by omega
    obtain ⟨z, hz⟩ := Int.le.dest hlo2
    have : ¬ z < j := fun q => hn z q hz.symm
    omega
  | o :: os, j, hj, hlo, hn, h => by
    unfold bsw at h
    have hget : offs.toList[j]? = some o := by
      have := congrArg (fun z => z[0]?) hj
      simpa using this
    have hjl : j < offs.toList.length := (List.getElem?_eq_some_iff.mp hget).1
    split at h
    · rename_i hxe
      obtain ⟨t, h1, h2⟩ := btgt_some h
      refine lv_tableIn hx hb hd hlo (by omega) (off := o) ?_ h1 (hk t h2)
      rw [show (x.toInt - lo0).toNat = j from by omega, ← Array.getElem?_toList]
      exact hget
    · rename_i hxe
      refine bsw_ok hx hb hd hh hk os (j + 1) ?_ hlo (fun i hi => ?_) (by rw [show lo0 + ((j + 1 : Nat) : Int) = lo0 + (j : Int) + 1 from by omega]; exact h)
      · rw [← List.tail_drop, hj]; rfl
      · by_cases e : i = j
        · subst e; exact hxe
        · exact hn i (by omega)
theorem bsw_lo {pc : Nat} {x : Int32} {dflt : Int} {k : Nat → Option bR} {r : bR} : ∀ (os : List Int) (lo : Int), x.toInt < lo → bsw pc x dflt k lo os = some r → btgt pc dflt k = some r
  | [], lo, _, h => h
  | o :: os, lo, hl, h => by
    unfold bsw at h
    rw [if_neg (by omega)] at h
    exact bsw_lo os (lo + 1) (by omega) h
theorem bbr_ok {R : Room} {Q : State → Prop} {H : Heap} {locs : List Loc} {ls : Array Slot} {pc t : Nat} {rest : List Value} {x y : Int32} {off : Int} {kt kf : Option bR} {r : bR} {cn : ClassFile.Cond} (hx : p.tables.exec = Jvm.exec) {cc : ByteArray} (hb : c.code = cc) (hd : decode cc pc = .ok (.if_icmp cn off, 3)) (ht : (pc : Int) + off = (t : Int)) (h : bbr cn x y kt kf = some r)
    (h1 : kt = some r → W p l e R s m args below meth c H locs 0 0 Q (F0 m t ls rest)) (h2 : kf = some r → W p l e R s m args below meth c H locs 0 0 Q (F0 m (pc + 3) ls rest)) : W p l e R s m args below meth c H locs 0 0 Q (F0 m pc ls (.int y :: .int x :: rest)) := by
  cases cn with
  | eq => exact lv_icmp_eq hx hb hd ht (fun z => h1 (by rw [← h]; exact (if_pos z).symm)) (fun z => h2 (by rw [← h]; exact (if_neg z).symm))
  | ne => exact lv_icmp_ne hx hb hd ht (fun z => h1 (by rw [← h]; exact (if_neg z).symm)) (fun z => h2 (by rw [← h]; exact (if_pos z).symm))
  | lt => exact lv_icmp_lt hx hb hd ht (fun z => h1 (by rw [← h]; exact (if_pos z).symm)) (fun z => h2 (by rw [← h]; exact (if_neg z).symm))
  | ge => exact lv_icmp_ge hx hb hd ht (fun z => h1 (by rw [← h]; exact (if_pos z).symm)) (fun z => h2 (by rw [← h]; exact (if_neg z).symm))
  | gt => exact lv_icmp_gt hx hb hd ht (fun z => h1 (by rw [← h]; exact (if_pos z).symm)) (fun z => h2 (by rw [← h]; exact (if_neg z).symm))
  | le => exact lv_icmp_le hx hb hd ht (fun z => h1 (by rw [← h]; exact (if_pos z).symm)) (fun z => h2 (by rw [← h]; exact (if_neg z).symm))
theorem bbz_ok {R : Room} {Q : State → Prop} {H : Heap} {locs : List Loc} {ls : Array Slot} {pc t : Nat} {rest : List Value} {x : Int32} {off : Int} {kt kf : Option bR} {r : bR} {cn : ClassFile.Cond} (hx : p.tables.exec = Jvm.exec) {cc : ByteArray} (hb : c.code = cc) (hd : decode cc pc = .ok (.ifCond cn off, 3)) (ht : (pc : Int) + off = (t : Int)) (h : bbr cn x 0 kt kf = some r)
    (h1 : kt = some r → W p l e R s m args below meth c H locs 0 0 Q (F0 m t ls rest)) (h2 : kf = some r → W p l e R s m args below meth c H locs 0 0 Q (F0 m (pc + 3) ls rest)) : W p l e R s m args below meth c H locs 0 0 Q (F0 m pc ls (.int x :: rest)) := by
  cases cn with
  | eq => exact lv_if_eq hx hb hd ht (fun z => h1 (by rw [← h]; exact (if_pos z).symm)) (fun z => h2 (by rw [← h]; exact (if_neg z).symm))
  | ne => exact lv_if_ne hx hb hd ht (fun z => h1 (by rw [← h]; exact (if_neg z).symm)) (fun z => h2 (by rw [← h]; exact (if_pos z).symm))
  | lt => exact lv_if_lt hx hb hd ht (fun z => h1 (by rw [← h]; exact (if_pos z).symm)) (fun z => h2 (by rw [← h]; exact (if_neg z).symm))
  | ge => exact lv_if_ge hx hb hd ht (fun z => h1 (by rw [← h]; exact (if_pos z).symm)) (fun z => h2 (by rw [← h]; exact (if_neg z).symm))
  | gt => exact lv_if_gt hx hb hd ht (fun z => h1 (by rw [← h]; exact (if_pos z).symm)) (fun z => h2 (by rw [← h]; exact (if_neg z).symm))
  | le => exact lv_if_le hx hb hd ht (fun z => h1 (by rw [← h]; exact (if_pos z).symm)) (fun z => h2 (by rw [← h]; exact (if_neg z).symm))
theorem bl1 {n k : Nat} (h : Nat.beq n k = true) : n = k := Nat.eq_of_beq_eq_true h
theorem band {a b : Bool} (h : (a && b) = true) : a = true ∧ b = true := by simpa using h
theorem bnone {r : bR} {P : Prop} (h : (none : Option bR) = some r) : P := nomatch h
theorem bret_i {x : Int32} {w : bW} {r : bR} (h : bret M (some (.int x)) w = some r) : r = (some (.int x), w) ∧ (bM_ret M = some .int ∨ (bM_ret M = some .boolean ∧ (x = 0 ∨ x = 1))) := by
  unfold bret at h
  cases hr : bM_ret M with
  | none => rw [hr] at h; exact bnone h
  | some ty =>
    rw [hr] at h
    cases ty with
    | int => cases h; exact ⟨rfl, Or.inl rfl⟩
    | boolean =>
      dsimp only at h
      split at h
      · rename_i h01
        cases h
        exact ⟨rfl, Or.inr ⟨rfl, h01⟩⟩
      · exact bnone h
    | _ => exact bnone h
theorem bret_l {x : Int64} {w : bW} {r : bR} (h : bret M (some (.long x)) w = some r) : r = (some (.long x), w) ∧ bM_ret M = some .long := by
  unfold bret at h
  cases hr : bM_ret M with
  | none => rw [hr] at h; exact bnone h
  | some ty =>
    rw [hr] at h
    cases ty with
    | long => cases h; exact ⟨rfl, rfl⟩
    | _ => exact bnone h
theorem bret_v {w : bW} {r : bR} (h : bret M none w = some r) : r = (none, w) ∧ bM_ret M = none := by
  unfold bret at h
  cases hr : bM_ret M with
  | none => rw [hr] at h; cases h; exact ⟨rfl, rfl⟩
  | some ty =>
    rw [hr] at h
    cases ty with
    | _ => exact bnone h
end BY
