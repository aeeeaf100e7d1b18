/-! what the reference keeps of a text while another one is told: the first halves -/
theorem ML.ofH {σ σ' : bS} {k : Nat} {o : Option ((Nat → Int32) → Int32)} (hk : k < 14) (h : ML σ k o) (h7 : eqH 500 (σ'.2.1 7) (σ.2.1 7)) (h8 : eqH 500 (σ'.2.1 8) (σ.2.1 8)) (h9 : eqH 14 (σ'.2.1 9) (σ.2.1 9)) (h10 : eqH 196 (σ'.2.1 10) (σ.2.1 10)) (h11 : eqH 196 (σ'.2.1 11) (σ.2.1 11)) : ML σ' k o := by
  cases o with
  | none => exact (h9 k hk).trans h
  | some f => exact ⟨fun z => h.1 ((h9 k hk).symm.trans z), fun n z σ1 hn a b c d e => h.2 n z σ1 hn (a.trans h7) (b.trans h8) (c.trans h9) (d.trans h10) (e.trans h11)⟩
def eqHs (σ σ' : bS) : Prop := (eqH 500 (σ'.2.1 7) (σ.2.1 7) ∧ eqH 500 (σ'.2.1 8) (σ.2.1 8) ∧ eqH 14 (σ'.2.1 9) (σ.2.1 9) ∧ eqH 196 (σ'.2.1 10) (σ.2.1 10) ∧ eqH 196 (σ'.2.1 11) (σ.2.1 11)) ∧ (eqH 1 (σ'.2.1 12) (σ.2.1 12) ∧ eqH 1 (σ'.2.1 13) (σ.2.1 13) ∧ eqH 1 (σ'.2.1 17) (σ.2.1 17) ∧ eqH 1 (σ'.2.1 20) (σ.2.1 20)) ∧ (eqH 10 (σ'.2.1 14) (σ.2.1 14) ∧ eqH 10 (σ'.2.1 15) (σ.2.1 15) ∧ eqH 10 (σ'.2.1 16) (σ.2.1 16)) ∧ eqH 4 (σ'.2.1 18) (σ.2.1 18) ∧ eqH 7 (σ'.2.1 22) (σ.2.1 22) ∧ eqH 4 (σ'.2.1 24) (σ.2.1 24)
theorem MTx.ofH {T : aT} {L : aL} {σ σ' : bS} (hI : InvT T L) (h : MTx T L σ) (e : eqHs σ σ') : MTx T L σ' := by
  obtain ⟨⟨a1, a2, a3, a4⟩, ⟨b1, b2, b3, b4⟩, c1, c2, c3, d1⟩ := h
  obtain ⟨⟨e7, e8, e9, e10, e11⟩, ⟨e12, e13, e17, e20⟩, ⟨e14, e15, e16⟩, e18, e22, e24⟩ := e
  have hG := hI.2.2.1
  have hM := hI.2.2.2.1
  refine ⟨⟨(e12 0 (by omega)).trans a1, (e13 0 (by omega)).trans a2, (e17 0 (by omega)).trans a3, (e20 0 (by omega)).trans a4⟩, ⟨(e24 0 (by omega)).trans b1, (e24 1 (by omega)).trans b2, (e24 2 (by omega)).trans b3, (e24 3 (by omega)).trans b4⟩, fun b hb => (e18 b (by omega)).trans (c1 b hb), fun m hm => (e22 m (by omega)).trans (c2 m hm), fun a b n σ1 ha hb hn f1 f2 f3 f4 => ?_, fun k hk => ?_⟩
  · exact c3 a b n σ1 ha hb hn (f1.trans e13) (f2.trans e14) (f3.trans e15) (f4.trans e16)
  · refine (d1 k hk).ofH ?_ e7 e8 e9 e10 e11
    unfold isLaw at hk
    omega
