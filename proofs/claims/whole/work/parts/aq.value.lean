/-! what a LAW's steps are worth -/
def okCd (C : codes) : Prop := ∀ q, q ∈ C → q.1 ≤ 5 ∧ q.2 ≤ 9999 ∧ (q.1 = 1 → q.2 < 8)
theorem okCd.snoc {C : codes} {q : Nat × Nat} (h : okCd C) (hq : q.1 ≤ 5 ∧ q.2 ≤ 9999 ∧ (q.1 = 1 → q.2 < 8)) : okCd (C ++ [q]) := fun x hx => by
  rcases List.mem_append.mp hx with y | y
  · exact h x y
  · rw [List.mem_singleton.mp y]
    exact hq
theorem setl_cd {w : Nat} : ∀ (S : List Nat) (o : Nat) (C : codes), okK S o → 1 ≤ w → okCd C → okCd (setl w C S).1
  | [], o, C, _, _, h => h
  | x :: S, o, C, hO, hw, h => by
    rw [setl]
    by_cases z : wgt x < w
    · rw [if_pos z]
      exact h
    · rw [if_neg z]
      rcases hO with ⟨e, -⟩ | ⟨h6, h9, -, hO⟩
      · rw [e] at z
        exact absurd (by rw [show wgt 11 = 0 by decide]; omega) z
      · exact setl_cd S o _ hO hw (h.snoc ⟨by show x - 4 ≤ 5; omega, by show 0 ≤ 9999; omega, fun u => by have u : x - 4 = 1 := u; omega⟩)
theorem sum_cd {s : tS} (hT : okT s) : ∀ (k nx : Nat) (w : Bool) (C : codes) (S : List Nat) (o nx' : Nat) (C' : codes), okK S o → okCd C → sumA s k w nx C S o = .inr (nx', C') → okCd C'
  | 0, nx, w, C, S, o, nx', C', hO, h, e => by cases e
  | k + 1, nx, true, C, S, o, nx', C', hO, h, e => by
    have k36 := hT.1 nx
    rw [sumA] at e
    split at e
    · split at e
      · cases e
      · split at e
        · exact sum_cd hT k (nx + 1) true C (11 :: S) (o + 1) nx' C' (Or.inl ⟨rfl, o, rfl, hO⟩) h e
        · cases e
    · split at e
      · rename_i z
        split at e
        · exact sum_cd hT k (nx + 1) false _ S o nx' C' hO (h.snoc ⟨by show 0 ≤ 5; omega, hT.2.2.2.2.2.2.1 nx z, fun u => by cases u⟩) e
        · cases e
      · split at e
        · split at e
          · exact sum_cd hT k (nx + 1) false _ S o nx' C' hO (h.snoc ⟨by show 1 ≤ 5; omega, by show tkd s nx - 29 ≤ 9999; omega, fun _ => by show tkd s nx - 29 < 8; omega⟩) e
          · cases e
        · cases e
  | k + 1, nx, false, C, S, o, nx', C', hO, h, e => by
    rw [sumA] at e
    by_cases z : 6 ≤ tkd s nx ∧ tkd s nx ≤ 9
    · rw [if_pos z] at e
      have wi := wgt_in z
      obtain ⟨s1, s2, s3, s4⟩ := setl_ok wi.1 C hO
      split at e
      · exact sum_cd hT k (nx + 1) true _ (tkd s nx :: (setl (wgt (tkd s nx)) C S).2) o nx' C' (Or.inr ⟨z.1, z.2, s2, s1⟩) (setl_cd S o C hO wi.1 h) e
      · cases e
    · rw [if_neg z] at e
      obtain ⟨s1, s2, s3, s4⟩ := setl_ok (w := 1) (by omega) C hO
      have hs := setl_cd (w := 1) S o C hO (by omega) h
      by_cases y : o = 0
      · subst y
        rw [if_pos rfl] at e
        have e := Sum.inr.inj e
        have e2 : (setl 1 C S).1 = C' := congrArg Prod.snd e
        rw [← e2]
        exact hs
      · rw [if_neg y] at e
        obtain ⟨S', t1, t2⟩ := s1.top (by omega) s2
        split at e
        · split at e
          · rw [t1, List.tail_cons] at e
            exact sum_cd hT k (nx + 1) false _ S' (o - 1) nx' C' t2 hs e
          · cases e
        · cases e
/-- an E that was read: its steps are steps, and stack as they must -/
def okE (C : codes) : Prop := okCd C ∧ dpt 16 C 0 = some 1 ∧ dpt 16 C 1 = some 2
theorem smA_ok {s : tS} {nx nx' : Nat} {C : codes} (hT : okT s) (h : smA s nx = .inr (nx', C)) : okE C := ⟨sum_cd hT _ _ _ [] [] 0 nx' C rfl (fun q hq => by cases hq) h, sum_dpt (b := 0) (by omega) _ _ _ [] [] 0 nx' C rfl (by omega) rfl h, sum_dpt (b := 1) (by omega) _ _ _ [] [] 0 nx' C rfl (by omega) rfl h⟩
def okL (q : lwS) : Prop := (∀ x, x ∈ q.1 → okE x.1 ∧ okE x.2.1 ∧ okE x.2.2) ∧ okE q.2
/-- one step, and all of them -/
def opv (op : Nat) (a b : Int32) : Option Int32 := if op = 2 then some (a + b) else if op = 3 then some (a - b) else if op = 4 then some (a * b) else if b = 0 then none else some (a / b)
def opS (op : Nat) (st : List Int32) : Option (List Int32) := match st with
  | b :: a :: st' => (opv op a b).map (fun y => y :: st')
  | _ => none
def evS (v : Nat → Int32) : codes → List Int32 → Option (List Int32)
  | [], st => some st
  | (op, x) :: r, st => if op = 0 then evS v r (nI x :: st) else if op = 1 then evS v r (v x :: st) else (opS op st).bind (fun z => evS v r z)
theorem opS_2 (op : Nat) (a b : Int32) (st : List Int32) : opS op (b :: a :: st) = (opv op a b).map (fun y => y :: st) := rfl
def evT (v : Nat → Int32) (C : codes) : Option Int32 := match evS v C [] with
  | some (x :: _) => some x
  | _ => none
def lawV (v : Nat → Int32) : List (codes × codes × codes) → codes → Option Int32
  | [], E => evT v E
  | (A, B, D) :: r, E => match evT v A with
    | none => none
    | some a => match evT v B with
      | none => none
      | some b => if a < b then evT v D else lawV v r E
def StI : List Int32 → (Nat → Int32) → Prop
  | [], _ => True
  | x :: S, f => f S.length = x ∧ StI S f
theorem StI.of : ∀ {S : List Int32} {f f' : Nat → Int32}, StI S f → (∀ i, i < S.length → f' i = f i) → StI S f'
  | [], _, _, _, _ => trivial
  | x :: S, f, f', h, e => ⟨(e S.length (by rw [List.length_cons]; omega)).trans h.1, h.2.of (fun i hi => e i (by rw [List.length_cons]; omega))⟩
theorem StI.push {S : List Int32} {σ : bS} {a : Nat} {x : Int32} (h : StI S (σ.2.1 a)) (hl : S.length < 2 ^ 31) : StI (x :: S) ((uA σ a (nI S.length) x).2.1 a) := by
  refine ⟨?_, h.of (fun i hi => ?_)⟩
  · rw [uA_2, nI_clamp hl, if_pos ⟨rfl, rfl⟩]
  · rw [uA_2, nI_clamp hl, if_neg (by omega)]
/-- what lies below the stack stays there -/
theorem evS_app {v : Nat → Int32} {M : Nat} (t : List Int32) : ∀ (C : codes) (st : List Int32) (e : Nat), dpt M C st.length = some e → evS v C (st ++ t) = (evS v C st).map (fun z => z ++ t)
  | [], st, e, h => rfl
  | (op, x) :: r, st, e, h => by
    rw [dpt] at h
    rw [evS, evS]
    by_cases z : op ≤ 1
    · rw [if_pos z] at h
      by_cases y : st.length < M
      · rw [if_pos y] at h
        by_cases w : op = 0
        · rw [if_pos w, if_pos w]
          exact evS_app t r (nI x :: st) e h
        · rw [if_neg w, if_neg w, if_pos (by omega), if_pos (by omega)]
          exact evS_app t r (v x :: st) e h
      · rw [if_neg y] at h
        cases h
    · rw [if_neg z] at h
      by_cases y : 2 ≤ st.length
      · rw [if_pos y] at h
        rw [if_neg (by omega), if_neg (by omega), if_neg (by omega), if_neg (by omega)]
        match st, y, h with
        | b :: a :: st', y, h =>
          rw [List.cons_append, List.cons_append, opS_2, opS_2]
          cases opv op a b with
          | none => rfl
          | some y => exact evS_app t r (y :: st') e h
      · rw [if_neg y] at h
        cases h
theorem evS_len {v : Nat → Int32} {M : Nat} : ∀ (C : codes) (st st' : List Int32) (e : Nat), dpt M C st.length = some e → evS v C st = some st' → st'.length = e
  | [], st, st', e, h, g => by
    have g := Option.some.inj g
    rw [← g]
    exact Option.some.inj h
  | (op, x) :: r, st, st', e, h, g => by
    rw [dpt] at h
    rw [evS] at g
    by_cases z : op ≤ 1
    · rw [if_pos z] at h
      by_cases y : st.length < M
      · rw [if_pos y] at h
        by_cases w : op = 0
        · rw [if_pos w] at g
          exact evS_len r (nI x :: st) st' e h g
        · rw [if_neg w, if_pos (by omega)] at g
          exact evS_len r (v x :: st) st' e h g
      · rw [if_neg y] at h
        cases h
    · rw [if_neg z] at h
      by_cases y : 2 ≤ st.length
      · rw [if_pos y] at h
        rw [if_neg (by omega), if_neg (by omega)] at g
        match st, y, h, g with
        | b :: a :: st2, y, h, g =>
          rw [opS_2] at g
          cases q : opv op a b with
          | none =>
            rw [q] at g
            cases g
          | some y =>
            rw [q] at g
            exact evS_len r (y :: st2) st' e h g
      · rw [if_neg y] at h
        cases h
theorem evT_1 {v : Nat → Int32} {C : codes} (h : okE C) : evS v C [] = (evT v C).map (fun x => [x]) := by
  unfold evT
  cases q : evS v C [] with
  | none => rfl
  | some st =>
    have l := evS_len C [] st 1 h.2.1 q
    match st, l with
    | [x], _ => rfl
theorem evT_2 {v : Nat → Int32} {C : codes} (h : okE C) (a : Int32) : evS v C [a] = (evT v C).map (fun x => [x, a]) := by
  have e : evS v C ([] ++ [a]) = _ := evS_app (v := v) [a] C [] 1 h.2.1
  rw [evT_1 h] at e
  refine (show evS v C [a] = _ from e).trans ?_
  cases evT v C with
  | none => rfl
  | some x => rfl
/-- a law looks at eight things -/
theorem evS_v {v v' : Nat → Int32} (hv : ∀ j, j < 8 → v j = v' j) : ∀ (C : codes) (st : List Int32), okCd C → evS v C st = evS v' C st
  | [], st, _ => rfl
  | (op, x) :: r, st, h => by
    have h1 := h (op, x) (List.mem_cons_self ..)
    have h2 : okCd r := fun q hq => h q (List.mem_cons_of_mem _ hq)
    rw [evS, evS]
    by_cases z : op = 0
    · rw [if_pos z, if_pos z]
      exact evS_v hv r _ h2
    · rw [if_neg z, if_neg z]
      by_cases y : op = 1
      · rw [if_pos y, if_pos y, hv x (h1.2.2 y)]
        exact evS_v hv r _ h2
      · rw [if_neg y, if_neg y]
        cases opS op st with
        | none => rfl
        | some z => exact evS_v hv r z h2
theorem lawV_v {v v' : Nat → Int32} (hv : ∀ j, j < 8 → v j = v' j) : ∀ (ifs : List (codes × codes × codes)) (E : codes), okL (ifs, E) → lawV v ifs E = lawV v' ifs E
  | [], E, h => by
    rw [lawV, lawV, evT, evT, evS_v hv E [] h.2.1]
  | (A, B, D) :: r, E, h => by
    obtain ⟨h1, h2, h3⟩ := h.1 (A, B, D) (List.mem_cons_self ..)
    have e1 : evT v A = evT v' A := by rw [evT, evT, evS_v hv A [] h1.1]
    have e2 : evT v B = evT v' B := by rw [evT, evT, evS_v hv B [] h2.1]
    have e3 : evT v D = evT v' D := by rw [evT, evT, evS_v hv D [] h3.1]
    rw [lawV, lawV, e1, e2, e3, lawV_v hv r E ⟨fun q hq => h.1 q (List.mem_cons_of_mem _ hq), h.2⟩]
