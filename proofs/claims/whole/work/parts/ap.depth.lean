/-! how deep a LAW's steps stack -/
def dpt (M : Nat) : codes → Nat → Option Nat
  | [], d => some d
  | (op, _) :: r, d => if op ≤ 1 then (if d < M then dpt M r (d + 1) else none) else if 2 ≤ d then dpt M r (d - 1) else none
theorem dpt_app {M : Nat} : ∀ (X Y : codes) (d e : Nat), dpt M X d = some e → dpt M (X ++ Y) d = dpt M Y e
  | [], Y, d, e, h => by
    have h := Option.some.inj h
    subst h
    rfl
  | (op, a) :: r, Y, d, e, h => by
    rw [dpt] at h
    rw [List.cons_append, dpt]
    by_cases z : op ≤ 1
    · rw [if_pos z] at h ⊢
      by_cases y : d < M
      · rw [if_pos y] at h ⊢
        exact dpt_app r Y (d + 1) e h
      · rw [if_neg y] at h
        cases h
    · rw [if_neg z] at h ⊢
      by_cases y : 2 ≤ d
      · rw [if_pos y] at h ⊢
        exact dpt_app r Y (d - 1) e h
      · rw [if_neg y] at h
        cases h
theorem setl_dpt {w b : Nat} (hw : 1 ≤ w) : ∀ (S : List Nat) (o : Nat) (C : codes), okK S o → dpt 16 C b = some (b + pnd S + 1) → dpt 16 (setl w C S).1 b = some (b + pnd (setl w C S).2 + 1)
  | [], o, C, _, h => h
  | x :: S, o, C, hO, h => by
    rw [setl]
    by_cases z : wgt x < w
    · rw [if_pos z]
      exact h
    · rw [if_neg z]
      rcases hO with ⟨e, -⟩ | ⟨h6, h9, -, hO⟩
      · rw [e] at z
        exact absurd (by rw [show wgt 11 = 0 by decide]; omega) z
      · rw [pnd, if_neg (by omega)] at h
        refine setl_dpt hw S o (C ++ [(x - 4, 0)]) hO ?_
        rw [dpt_app C _ b _ h, dpt, if_neg (by omega), if_pos (by omega), dpt]
        congr 1
theorem sum_dpt {s : tS} {b : Nat} (hb : b ≤ 1) : ∀ (k nx : Nat) (w : Bool) (C : codes) (S : List Nat) (o nx' : Nat) (C' : codes), okK S o → o ≤ 6 → dpt 16 C b = some (b + pnd S + (if w = true then 0 else 1)) → sumA s k w nx C S o = .inr (nx', C') → dpt 16 C' b = some (b + 1)
  | 0, nx, w, C, S, o, nx', C', hO, ho, h, e => by cases e
  | k + 1, nx, true, C, S, o, nx', C', hO, ho, h, e => by
    have l := hO.len
    have w2 := wgt_le (S.headD 11)
    rw [if_pos rfl, Nat.add_zero] at h
    have un : ∀ q : Nat × Nat, q.1 ≤ 1 → dpt 16 (C ++ [q]) b = some (b + pnd S + (if false = true then 0 else 1)) := fun q hq => by
      obtain ⟨q1, q2⟩ := q
      rw [dpt_app C _ b _ h, dpt, if_pos hq, if_pos (by omega), dpt]
      rfl
    rw [sumA] at e
    split at e
    · split at e
      · cases e
      · split at e
        · exact sum_dpt hb k (nx + 1) true C (11 :: S) (o + 1) nx' C' (Or.inl ⟨rfl, o, rfl, hO⟩) (by omega) (by rw [if_pos rfl, pnd, if_pos rfl]; exact h) e
        · cases e
    · split at e
      · split at e
        · exact sum_dpt hb k (nx + 1) false _ S o nx' C' hO ho (un _ (by show 0 ≤ 1; omega)) e
        · cases e
      · split at e
        · split at e
          · exact sum_dpt hb k (nx + 1) false _ S o nx' C' hO ho (un _ (by show 1 ≤ 1; omega)) e
          · cases e
        · cases e
  | k + 1, nx, false, C, S, o, nx', C', hO, ho, h, e => by
    have h : dpt 16 C b = some (b + pnd S + 1) := h
    rw [sumA] at e
    by_cases z : 6 ≤ tkd s nx ∧ tkd s nx ≤ 9
    · rw [if_pos z] at e
      have wi := wgt_in z
      obtain ⟨s1, s2, s3, s4⟩ := setl_ok wi.1 C hO
      split at e
      · refine sum_dpt hb k (nx + 1) true _ (tkd s nx :: (setl (wgt (tkd s nx)) C S).2) o nx' C' (Or.inr ⟨z.1, z.2, s2, s1⟩) ho ?_ e
        rw [if_pos rfl, pnd, if_neg (wgt_op z).2]
        exact setl_dpt wi.1 S o C hO h
      · cases e
    · rw [if_neg z] at e
      obtain ⟨s1, s2, s3, s4⟩ := setl_ok (w := 1) (by omega) C hO
      have hs := setl_dpt (w := 1) (by omega) S o C hO h
      by_cases y : o = 0
      · subst y
        rw [if_pos rfl] at e
        have e := Sum.inr.inj e
        have e2 : (setl 1 C S).1 = C' := congrArg Prod.snd e
        rw [s1.bot s2] at hs
        rw [← e2]
        exact hs
      · rw [if_neg y] at e
        obtain ⟨S', t1, t2⟩ := s1.top (by omega) s2
        split at e
        · split at e
          · rw [t1, List.tail_cons] at e
            rw [t1, pnd, if_pos rfl] at hs
            exact sum_dpt hb k (nx + 1) false _ S' (o - 1) nx' C' t2 (by omega) hs e
          · cases e
        · cases e
