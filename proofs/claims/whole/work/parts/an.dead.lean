/-! NAMES, INTs and first words after a FAULT: the class does nothing -/
theorem CD.bin {β : Type} {s : tS} {f p : Nat} {σ : bS} {x : Option β} (h : CD s f p σ) : bin_ (sI σ 44 4) 401 x = x := by
  obtain ⟨nx, -, h2, h3, -⟩ := h.2.2.2.1
  rw [show sI σ 44 4 = nI nx from h2, bin_nI (by omega) (by decide)]
theorem c_nameD {s : tS} {n f p : Nat} {x : Int32} {σ : bS} (h : CD s f p σ) : cReader_takeName n x σ = some (-1, σ) := by
  unfold cReader_takeName
  rw [h.bin, c_takeD h, ob_def, if_neg h.ne, cim1]
theorem c_newD {s : tS} {n f p : Nat} {x y : Int32} {σ : bS} (h : CD s f p σ) : cReader_takeNewName n x y σ = some σ := by
  unfold cReader_takeNewName
  rw [h.bin, c_takeD h, ob_def, if_neg h.ne]
theorem c_intD {s : tS} {n f p : Nat} {x y : Int32} {σ : bS} (h : CD s f p σ) : cReader_takeInt n x y σ = some (x, σ) := by
  unfold cReader_takeInt
  rw [h.bin, c_takeD h, ob_def, if_neg h.ne]
theorem c_firstD {s : tS} {n f p : Nat} {x y z : Int32} {σ : bS} (h : CD s f p σ) : cReader_takeFirst n x y z σ = some σ := by
  unfold cReader_takeFirst
  rw [cReader_takeFirst_b10, c_takeD h, ob_def]
  split
  · rfl
  · rw [c_failD h, ob_def, cReader_takeFirst_b10, c_takeD h, ob_def]
/-- the first word of a statement, where there is room, and where there is none -/
theorem c_firstE {s : tS} {n nx k c m ll : Nat} {x y z : Int32} {σ : bS} (hT : okT s) (hP : CP s nx σ) (hx : x = nI k) (hy : y = nI c) (hz : z = nI m) (hk1 : 1 < k) (hk : k ≤ 36) (hc : c ≤ m) (hm : m ≤ 100) (hl : σ.1 23 3 = nI ll) (hl2 : ll ≤ 402) : (c < m ∧ tkF s k nx = 0 ∧ cReader_takeFirst n x y z σ = some (uI σ 44 4 (nI (nx + 1))) ∧ CP s (nx + 1) (uI σ 44 4 (nI (nx + 1)))) ∨ (c < m ∧ ¬ tkF s k nx = 0 ∧ ∃ σ', cReader_takeFirst n x y z σ = some σ' ∧ CD s (tkF s k nx) (tpl s nx) σ' ∧ frZ σ σ') ∨ (c = m ∧ ∃ σ', cReader_takeFirst n x y z σ = some σ' ∧ CD s 2 (tpl s nx) σ' ∧ frZ σ σ') := by
  unfold cReader_takeFirst
  rw [hy, hz]
  by_cases w : c < m
  · rw [if_pos ((nI_ltI (by omega) (by omega)).mpr w), cReader_takeFirst_b10]
    rcases c_tkF (n := n) (x := x) (k := k) hT hx hk1 hk hP hl hl2 with ⟨t0, t1, t2⟩ | ⟨t0, σ', t1, t2, t3⟩
    · rw [t1, ob_def]
      exact Or.inl ⟨w, t0, rfl, t2⟩
    · rw [t1, ob_def]
      exact Or.inr (Or.inl ⟨w, t0, σ', rfl, t2, t3⟩)
  · have hD := hP.dead (f := 2) (Or.inr rfl) hl hl2
    rw [if_neg (fun u => w ((nI_ltI (by omega) (by omega)).mp u)), c_failE (show ci_2 = nI 2 by decide) hP, ob_def, cReader_takeFirst_b10, c_takeD hD, ob_def]
    exact Or.inr (Or.inr ⟨by omega, _, rfl, hD, frZ_fail⟩)
