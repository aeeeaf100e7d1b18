/-! NAMES and INTs taken, on both sides -/
theorem m_takesE {s : tS} {n nx k m : Nat} {x : Int32} {σ : bS} (hT : okT s) (hP : MP s nx σ) (hx : x = nI m) (hk : (k = 2 ∧ m = 0) ∨ (k = 3 ∧ m = 1)) : (tkF s k nx = 0 ∧ m_takes n x σ = some (1, uI σ 0 7 (nI (nx + 1))) ∧ MP s (nx + 1) (uI σ 0 7 (nI (nx + 1)))) ∨ (¬ tkF s k nx = 0 ∧ ∃ σ', m_takes n x σ = some (0, σ') ∧ MF (tkF s k nx) (tpl s nx) σ' ∧ frE σ σ' ∧ σ'.2 = σ.2) := by
  have km := mkK_in (tkd s nx)
  have ki : mkK (tkd s nx) = m ↔ tkd s nx = k := by
    rcases hk with ⟨rfl, rfl⟩ | ⟨rfl, rfl⟩
    · exact mkK_0
    · exact mkK_1
  unfold m_takes tkF
  rw [hP.bin, hP.kind, hx]
  by_cases z : tkd s nx = k
  · rw [if_pos ((nI_eqI (by omega) (by omega)).mpr (ki.mpr z)), if_pos z]
    rcases m_pass_eq (n := n) hT hP (by omega) with ⟨w, p1, p2⟩ | ⟨w, σ3, p1, p2, p3, p4⟩
    · left
      rw [if_pos w, p2, ob_def]
      exact ⟨rfl, rfl, p1⟩
    · right
      rw [if_neg w, p1, ob_def]
      exact ⟨by omega, σ3, rfl, p2, p3, p4⟩
  · right
    obtain ⟨σ', a1, a2, a3, a4⟩ := m_wrong_eq (n := n) (x := ci_1) (f := 1) (by decide) hP
    rw [if_neg (fun u => z (ki.mp ((nI_eqI (by omega) (by omega)).mp u))), if_neg z, a1, ob_def]
    exact ⟨by omega, σ', rfl, a2, a3, a4⟩
theorem tkF_0 {s : tS} {k nx : Nat} (h : tkF s k nx = 0) : tkd s nx = k ∧ nx < 400 := by
  unfold tkF at h
  by_cases z : tkd s nx = k
  · rw [if_pos z] at h
    by_cases y : nx < 400
    · exact ⟨z, y⟩
    · rw [if_neg y] at h
      omega
  · rw [if_neg z] at h
    omega
/-- what the class changes with a NAME or an INT -/
def frN (σ σ' : bS) : Prop := frC (fun a => 44 ≤ a ∧ a ≤ 47) σ σ' ∧ ∀ k, ¬ (k = 0 ∨ k = 4 ∨ k = 5 ∨ k = 6 ∨ k = 7 ∨ k = 11) → σ'.1 44 k = σ.1 44 k
theorem frN.of67 {σ σ' : bS} (h : fr67 σ σ') : frN σ σ' := ⟨fun a ha => ⟨h.2.1 a (fun u => ha (by omega)), by rw [h.1], by rw [h.1]⟩, fun k hk => h.2.2 k (fun u => hk (by omega))⟩
theorem frN.trans {σ σ1 σ2 : bS} (h : frN σ σ1) (g : frN σ1 σ2) : frN σ σ2 := ⟨h.1.trans g.1, fun k hk => (g.2 k hk).trans (h.2 k hk)⟩
theorem frN.u44 {σ : bS} {k : Nat} {v : Int32} (h : k = 0 ∨ k = 4 ∨ k = 5 ∨ k = 11) : frN σ (uI σ 44 k v) := ⟨frC.uI (by omega), fun j hj => by
  rw [uI_1, if_neg]
  rintro ⟨-, rfl⟩
  exact hj (by omega)⟩
def fndN (N : nmS) (w : List Nat) (k : Nat) : Option Nat := fI N w k N.length 0
def unkU (U : Option (Nat × Nat)) (o : Option Nat) (j : Nat) : Option (Nat × Nat) := match o with
  | none => ntd U 4 j
  | some _ => U
theorem UnC.of {s : tS} {U : Option (Nat × Nat)} {σ σ' : bS} (h : UnC s U σ) (h6 : σ'.1 44 6 = σ.1 44 6) (h7 : σ'.1 44 7 = σ.1 44 7) : UnC s U σ' := by
  cases U with
  | none => exact h6.trans h
  | some q => exact ⟨h6.trans h.1, h7.trans h.2⟩
theorem NmC.of {N : nmS} {σ σ' : bS} (h : NmC N σ) (h2 : σ'.2 = σ.2) (h11 : σ'.1 44 11 = σ.1 44 11) : NmC N σ' := ⟨h11.trans h.1, fun i hi => by rw [h2]; exact h.2 i hi⟩
theorem CP.of67 {s : tS} {nx : Nat} {σ σ' : bS} (h : CP s nx σ) (f : fr67 σ σ') : CP s nx σ' := ⟨⟨h.1.1.of67 f, (f.2.2 4 (by decide)).trans h.1.2.1, h.1.2.2.1, h.1.2.2.2⟩, (f.2.2 5 (by decide)).trans h.2⟩
theorem c_nameE {s : tS} {n nx k ll : Nat} {N : nmS} {U : Option (Nat × Nat)} {σ : bS} (hn : 50 ≤ n) (hT : okT s) (hP : CP s nx σ) (hN : nmOk N) (h17 : N.length ≤ 17) (hC : NmC N σ) (hU : okU nx U) (hc : UnC s U σ) (hk : k ≤ 2) (hl : σ.1 23 3 = nI ll) (hl2 : ll ≤ 402) : (tkF s 2 nx = 0 ∧ ∃ σ', cReader_takeName n (nI (srt k)) σ = some (oI (fndN N (twd s nx) k), σ') ∧ CP s (nx + 1) σ' ∧ NmC N σ' ∧ UnC s (unkU U (fndN N (twd s nx) k) nx) σ' ∧ frN σ σ') ∨ (¬ tkF s 2 nx = 0 ∧ ∃ σ', cReader_takeName n (nI (srt k)) σ = some (-1, σ') ∧ CD s (tkF s 2 nx) (tpl s nx) σ' ∧ frZ σ σ') := by
  have nx4 := hP.1.2.2.1
  have e4 : sI σ 44 4 = nI nx := hP.1.2.1
  unfold cReader_takeName
  rw [e4, bin_nI (by omega) (by decide)]
  rcases c_tkF (n := n) (x := ci_2) (k := 2) hT (by decide) (by omega) (by omega) hP hl hl2 with ⟨t0, t1, t2⟩ | ⟨t0, σ', t1, t2, t3⟩
  · left
    obtain ⟨z, y⟩ := tkF_0 t0
    obtain ⟨w1, w2⟩ := hT.2.2.2.2.2.1 nx z
    have ej : sJ σ 52 (nI nx) = Int64.ofNat (kR 32 (twd s nx)) := by
      show σ.2.2 52 (nI nx).toNatClampNeg = _
      rw [nI_clamp (by omega)]
      exact (hP.1.1 nx nx4 hP.1.2.2.2).2.2.1 z
    have hC1 : NmC N (uI σ 44 4 (nI (nx + 1))) := hC.of rfl (by rw [uI_1, if_neg (by decide)])
    have hc1 : UnC s U (uI σ 44 4 (nI (nx + 1))) := hc.of (by rw [uI_1, if_neg (by decide)]) (by rw [uI_1, if_neg (by decide)])
    have e5 : sI (uI σ 44 4 (nI (nx + 1))) 44 5 = 0 := t2.2
    refine ⟨t0, ?_⟩
    rw [t1, ob_def, if_pos e5, ej, show ci_0 = nI 0 by decide, c_name_l hN hC1 h17 w1 w2 hk N.length 0 n (by omega) (by omega)]
    unfold fndN
    cases h : fI N (twd s nx) k N.length 0 with
    | none =>
      obtain ⟨σ2, b1, b2, b3⟩ := c_note (n := n) (f := 4) (j := nx) (x := ci_4) ci_4_n hU hc1 t2.1.1 nx4 hP.1.2.2.2
      show ∃ σ', (ob (cReader_note n ci_4 (nI nx) (uI σ 44 4 (nI (nx + 1)))) fun q1 => some (ci_m1, q1)) = some (oI none, σ') ∧ _
      rw [b1, ob_def]
      exact ⟨σ2, rfl, t2.of67 b3, hC1.of67 b3, b2, (frN.u44 (by decide)).trans (frN.of67 b3)⟩
    | some x => exact ⟨_, rfl, t2, hC1, hc1, frN.u44 (by decide)⟩
  · right
    rw [t1, ob_def, if_neg t2.ne, cim1]
    exact ⟨t0, σ', rfl, t2, t3⟩
