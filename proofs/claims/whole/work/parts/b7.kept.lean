/-! while no FAULT is found, the reference's FAULT and its place stay as they were -/
def K8 (w : Int32 × Int32) (σ : bS) : Prop := σ.1 0 8 = w.1 ∧ σ.1 0 9 = w.2
def WB (w : Int32 × Int32) (x : Option (Int32 × bS)) : Prop := ∀ v σ', x = some (v, σ') → K8 w σ' ∨ v = 0
def WU (w : Int32 × Int32) (x : Option (Int32 × bS)) : Prop := ∀ v σ', x = some (v, σ') → K8 w σ' ∨ v < 0
def WV (w : Int32 × Int32) (x : Option (Int32 × bS)) : Prop := ∀ v σ', x = some (v, σ') → K8 w σ'
def W0 (w : Int32 × Int32) (x : Option bS) : Prop := ∀ σ', x = some σ' → K8 w σ'
theorem K8.i {w : Int32 × Int32} {σ : bS} {k : Nat} {v : Int32} (h : K8 w σ) (h8 : ¬ k = 8) (h9 : ¬ k = 9) : K8 w (uI σ 0 k v) := by
  unfold K8
  rw [uI_1, if_neg (by omega), uI_1, if_neg (by omega)]
  exact h
theorem WB_bz0 {w : Int32 × Int32} {σ : bS} : WB w (bz ci_0 σ) := fun v σ' e => Or.inr (by
  rw [bz_0] at e
  exact (congrArg Prod.fst (Option.some.inj e)).symm)
theorem bz_out {x v : Int32} {σ σ' : bS} (e : bz x σ = some (v, σ')) : x = v ∧ σ = σ' := by
  unfold bz at e
  split at e
  · have e := Option.some.inj e
    exact ⟨congrArg Prod.fst e, congrArg Prod.snd e⟩
  · cases e
theorem WB_bz {w : Int32 × Int32} {x : Int32} {σ : bS} (h : K8 w σ) : WB w (bz x σ) := fun v σ' e => Or.inl (by
  rw [← (bz_out e).2]
  exact h)
theorem WB_bzq {w : Int32 × Int32} {q : Int32 × bS} (h : K8 w q.2 ∨ q.1 = 0) : WB w (bz q.1 q.2) := fun v σ' e => by
  obtain ⟨e1, e2⟩ := bz_out e
  rw [← e1, ← e2]
  exact h
theorem WB_bin {w : Int32 × Int32} {i : Int32} {n : Nat} {x : Option (Int32 × bS)} (h : WB w x) : WB w (bin_ i n x) := fun v σ' e => h v σ' (bin_some e).2
theorem WB_ite {w : Int32 × Int32} {c : Prop} [Decidable c] {x y : Option (Int32 × bS)} (h1 : WB w x) (h2 : WB w y) : WB w (if c then x else y) := by
  split
  · exact h1
  · exact h2
theorem WB_obB {w : Int32 × Int32} {x : Option (Int32 × bS)} {k : Int32 × bS → Option (Int32 × bS)} (hx : WB w x) (hk : ∀ q : Int32 × bS, (K8 w q.2 ∨ q.1 = 0) → WB w (k q)) : WB w (ob x k) := fun v σ' e => by
  cases x with
  | none => cases e
  | some q => exact hk q (hx q.1 q.2 rfl) v σ' e
theorem WB_obI {w : Int32 × Int32} {x : Option (Int32 × bS)} {A B : Int32 × bS → Option (Int32 × bS)} (hx : WB w x) (hA : ∀ q, WB w (A q)) (hB : ∀ q : Int32 × bS, K8 w q.2 → WB w (B q)) : WB w (ob x fun q => if q.1 = 0 then A q else B q) := WB_obB hx (fun q hq => by
  by_cases z : q.1 = 0
  · rw [if_pos z]
    exact hA q
  · rw [if_neg z]
    exact hB q (hq.resolve_right z))
theorem WB_obV {w : Int32 × Int32} {x : Option (Int32 × bS)} {k : Int32 × bS → Option (Int32 × bS)} (hx : WV w x) (hk : ∀ q : Int32 × bS, K8 w q.2 → WB w (k q)) : WB w (ob x k) := fun v σ' e => by
  cases x with
  | none => cases e
  | some q => exact hk q (hx q.1 q.2 rfl) v σ' e
theorem WB_ob0 {w : Int32 × Int32} {x : Option bS} {k : bS → Option (Int32 × bS)} (hx : W0 w x) (hk : ∀ q, K8 w q → WB w (k q)) : WB w (ob x k) := fun v σ' e => by
  cases x with
  | none => cases e
  | some q => exact hk q (hx q rfl) v σ' e
theorem WV_bz {w : Int32 × Int32} {x : Int32} {σ : bS} (h : K8 w σ) : WV w (bz x σ) := fun v σ' e => by
  rw [← (bz_out e).2]
  exact h
theorem WV_some {w : Int32 × Int32} {x : Int32} {σ : bS} (h : K8 w σ) : WV w (some (x, σ)) := fun v σ' e => by
  have e2 : σ = σ' := congrArg Prod.snd (Option.some.inj e)
  rw [← e2]
  exact h
theorem WV_bin {w : Int32 × Int32} {i : Int32} {n : Nat} {x : Option (Int32 × bS)} (h : WV w x) : WV w (bin_ i n x) := fun v σ' e => h v σ' (bin_some e).2
theorem WV_ite {w : Int32 × Int32} {c : Prop} [Decidable c] {x y : Option (Int32 × bS)} (h1 : WV w x) (h2 : WV w y) : WV w (if c then x else y) := by
  split
  · exact h1
  · exact h2
theorem WV_obV {w : Int32 × Int32} {x : Option (Int32 × bS)} {k : Int32 × bS → Option (Int32 × bS)} (hx : WV w x) (hk : ∀ q : Int32 × bS, K8 w q.2 → WV w (k q)) : WV w (ob x k) := fun v σ' e => by
  cases x with
  | none => cases e
  | some q => exact hk q (hx q.1 q.2 rfl) v σ' e
theorem W0_some {w : Int32 × Int32} {σ : bS} (h : K8 w σ) : W0 w (some σ) := fun σ' e => by
  rw [← Option.some.inj e]
  exact h
theorem W0_bin {w : Int32 × Int32} {i : Int32} {n : Nat} {x : Option bS} (h : W0 w x) : W0 w (bin_ i n x) := fun σ' e => h σ' (bin_some e).2
theorem W0_ite {w : Int32 × Int32} {c : Prop} [Decidable c] {x y : Option bS} (h1 : W0 w x) (h2 : W0 w y) : W0 w (if c then x else y) := by
  split
  · exact h1
  · exact h2
theorem W0_ob0 {w : Int32 × Int32} {x : Option bS} {k : bS → Option bS} (hx : W0 w x) (hk : ∀ q, K8 w q → W0 w (k q)) : W0 w (ob x k) := fun σ' e => by
  cases x with
  | none => cases e
  | some q => exact hk q (hx q rfl) σ' e
theorem W0_obV {w : Int32 × Int32} {x : Option (Int32 × bS)} {k : Int32 × bS → Option bS} (hx : WV w x) (hk : ∀ q : Int32 × bS, K8 w q.2 → W0 w (k q)) : W0 w (ob x k) := fun σ' e => by
  cases x with
  | none => cases e
  | some q => exact hk q (hx q.1 q.2 rfl) σ' e
theorem WU_some {w : Int32 × Int32} {x : Int32} {σ : bS} (h : K8 w σ ∨ x < 0) : WU w (some (x, σ)) := fun v σ' e => by
  have e := Option.some.inj e
  have e2 : σ = σ' := congrArg Prod.snd e
  have e1 : x = v := congrArg Prod.fst e
  rw [← e2, ← e1]
  exact h
theorem WU_bin {w : Int32 × Int32} {i : Int32} {n : Nat} {x : Option (Int32 × bS)} (h : WU w x) : WU w (bin_ i n x) := fun v σ' e => h v σ' (bin_some e).2
theorem WU_ite {w : Int32 × Int32} {c : Prop} [Decidable c] {x y : Option (Int32 × bS)} (h1 : WU w x) (h2 : WU w y) : WU w (if c then x else y) := by
  split
  · exact h1
  · exact h2
theorem WU_obI {w : Int32 × Int32} {x : Option (Int32 × bS)} {A B : Int32 × bS → Option (Int32 × bS)} (hx : WB w x) (hA : ∀ q, WU w (A q)) (hB : ∀ q : Int32 × bS, K8 w q.2 → WU w (B q)) : WU w (ob x fun q => if q.1 = 0 then A q else B q) := fun v σ' e => by
  cases x with
  | none => cases e
  | some q =>
    rw [ob_def] at e
    by_cases z : q.1 = 0
    · rw [if_pos z] at e
      exact hA q v σ' e
    · rw [if_neg z] at e
      exact hB q ((hx q.1 q.2 rfl).resolve_right z) v σ' e
theorem WU_obV {w : Int32 × Int32} {x : Option (Int32 × bS)} {k : Int32 × bS → Option (Int32 × bS)} (hx : WV w x) (hk : ∀ q : Int32 × bS, K8 w q.2 → WU w (k q)) : WU w (ob x k) := fun v σ' e => by
  cases x with
  | none => cases e
  | some q => exact hk q (hx q.1 q.2 rfl) v σ' e
theorem WU_ob0 {w : Int32 × Int32} {x : Option bS} {k : bS → Option (Int32 × bS)} (hx : W0 w x) (hk : ∀ q, K8 w q → WU w (k q)) : WU w (ob x k) := fun v σ' e => by
  cases x with
  | none => cases e
  | some q => exact hk q (hx q rfl) v σ' e
variable {w : Int32 × Int32} {n : Nat}
theorem w_wrong {x : Int32} {σ : bS} : WB w (m_wrong n x σ) := WB_bin WB_bz0
theorem w_pass {σ : bS} (h : K8 w σ) : WB w (m_pass n σ) := WB_ite (WB_bz (h.i (by omega) (by omega))) (WB_obB w_wrong (fun q hq => WB_bzq hq))
theorem w_isSign {x : Int32} {σ : bS} (h : K8 w σ) : WV w (m_isSign n x σ) := WV_bin (WV_ite (WV_bin (WV_ite (WV_bz (x := ci_1) h) (WV_bz (x := ci_0) h))) (WV_bz (x := ci_0) h))
theorem w_isWord {x : Int32} {σ : bS} (h : K8 w σ) : WV w (m_isWord n x σ) := WV_bin (WV_ite (WV_bin (WV_ite (WV_bz (x := ci_1) h) (WV_bz (x := ci_0) h))) (WV_bz (x := ci_0) h))
theorem w_takes {x : Int32} {σ : bS} (h : K8 w σ) : WB w (m_takes n x σ) := WB_bin (WB_ite (WB_obB (w_pass h) (fun q hq => WB_bzq hq)) (WB_obB w_wrong (fun q hq => WB_bzq hq)))
theorem w_takesSign {x : Int32} {σ : bS} (h : K8 w σ) : WB w (m_takesSign n x σ) := WB_obV (w_isSign h) (fun q hq => WB_ite (WB_obB w_wrong (fun q hq => WB_bzq hq)) (WB_obB (w_pass hq) (fun q hq => WB_bzq hq)))
theorem w_takesWord {x : Int32} {σ : bS} (h : K8 w σ) : WB w (m_takesWord n x σ) := WB_obV (w_isWord h) (fun q hq => WB_ite (WB_obB w_wrong (fun q hq => WB_bzq hq)) (WB_obB (w_pass hq) (fun q hq => WB_bzq hq)))
theorem w_tells {x y : Int32} {σ : bS} (h : K8 w σ) : W0 w (m_tells n x y σ) := by
  have h2 : ∀ a b, W0 w (m_tells_b39 n a b σ) := fun a b => W0_some ((h.i (by omega) (by omega)).i (by omega) (by omega))
  exact W0_bin (W0_ite (h2 _ _) (W0_ite (W0_some h) (W0_ite (W0_ite (h2 _ _) (W0_some h)) (h2 _ _))))
theorem w_takesInt {x y : Int32} {σ : bS} (h : K8 w σ) : WB w (m_takesInt n x y σ) := WB_obI (w_takes h) (fun q => WB_bz0) (fun q hq => by
  have h1 : ∀ v, K8 w (uI q.2 0 35 v) := fun v => hq.i (by omega) (by omega)
  have h2 : ∀ z v, WB w (m_takesInt_b41 n z (uI q.2 0 35 v)) := fun z v => WB_ob0 (w_tells (h1 v)) (fun q hq => WB_bz hq)
  exact WB_bin (WB_ite (h2 _ _) (WB_ite (WB_bz (h1 _)) (h2 _ _))))
theorem w_names_l : ∀ (k : Nat) (x1 x2 x3 x4 : Int32) (σ : bS), K8 w σ → WB w (m_names_b18 n k x1 x2 x3 x4 σ)
  | 0, _, _, _, _, _, _ => fun v σ' e => by cases e
  | k + 1, x1, x2, x3, x4, σ, h => by
    rw [m_names_b18]
    refine WB_ite (WB_bin (WB_bin (WB_bin (WB_bin (WB_bz (K8.i (show K8 w (uA (uA (uJ σ _ _ _) _ _ _) _ _ _) from h) (by omega) (by omega))))))) (WB_bin (WB_bin (WB_ite (WB_ob0 (w_tells h) (fun q hq => w_names_l k _ _ _ _ q hq)) (w_names_l k _ _ _ _ σ h))))
theorem w_names {x y : Int32} {σ : bS} (h : K8 w σ) : WB w (m_names n x y σ) := WB_obI (w_takes h) (fun q => WB_bz0) (fun q hq => w_names_l n _ _ _ _ q.2 hq)
theorem w_name_l : ∀ (k : Nat) (x1 x2 x3 : Int32) (σ : bS), K8 w σ → WB w (m_takesName_b27 n k x1 x2 x3 σ)
  | 0, _, _, _, _, _ => fun v σ' e => by cases e
  | k + 1, x1, x2, x3, σ, h => by
    rw [m_takesName_b27]
    exact WB_ite (WB_ite (WB_bz h) (WB_ob0 (w_tells h) (fun q hq => WB_bz hq))) (WB_bin (WB_bin (WB_ite (WB_bin (WB_ite (WB_bin (w_name_l k _ _ _ _ (h.i (by omega) (by omega)))) (w_name_l k _ _ _ _ h))) (w_name_l k _ _ _ _ h))))
theorem w_takesName {x : Int32} {σ : bS} (h : K8 w σ) : WB w (m_takesName n x σ) := WB_obI (w_takes h) (fun q => WB_bz0) (fun q hq => w_name_l n _ _ _ _ (hq.i (by omega) (by omega)))
theorem w_emit {x y : Int32} {σ : bS} (h : K8 w σ) : W0 w (m_emit n x y σ) := W0_bin (W0_bin (W0_bin (W0_bin (W0_bin (W0_bin (W0_some (show K8 w (uA (uA (uA σ _ _ _) _ _ _) _ _ _) from h)))))))
theorem w_rank {x : Int32} {σ : bS} (h : K8 w σ) : WV w (m_rank n x σ) := WV_ite (WV_ite (WV_some h) (WV_some h)) (WV_some h)
theorem w_reduce_l : ∀ (k : Nat) (x : Int32) (σ : bS), K8 w σ → W0 w (m_reduce_b0 n k x σ)
  | 0, _, _, _ => fun σ' e => by cases e
  | k + 1, x, σ, h => by
    rw [m_reduce_b0]
    exact W0_ite (W0_some h) (W0_bin (W0_obV (w_rank h) (fun q hq => W0_ite (W0_some hq) (W0_bin (W0_ob0 (w_emit (hq.i (by omega) (by omega))) (fun q hq => w_reduce_l k _ q hq))))))
theorem w_reduce {x : Int32} {σ : bS} (h : K8 w σ) : W0 w (m_reduce n x σ) := w_reduce_l n x σ h
theorem w_await {x : Int32} {σ : bS} (h : K8 w σ) : W0 w (m_await n x σ) := W0_bin (W0_some (K8.i (show K8 w (uA σ _ _ _) from h) (by omega) (by omega)))
theorem w_unit {σ : bS} (h : K8 w σ) : WU w (m_takesUnit n σ) := by
  have neg : ∀ σ1 : bS, WU w (some (ci_m1, σ1)) := fun σ1 => WU_some (Or.inr (by decide))
  have b160 : ∀ (σ1 : bS) (x y : Int32), K8 w σ1 → WU w (m_takesUnit_b160 n x y σ1) := fun σ1 x y h1 => WU_ob0 (w_emit h1) (fun q hq => WU_obI (w_pass hq) (fun q => neg _) (fun q hq => WU_some (Or.inl hq)))
  have b132 : ∀ (σ1 : bS) (x y : Int32), K8 w σ1 → WU w (m_takesUnit_b132 n x y σ1) := fun σ1 x y h1 => WU_ite (WU_bin (b160 _ _ _ h1)) (WU_bin (b160 _ _ _ h1))
  have b122 : ∀ (σ1 : bS) (x : Int32), K8 w σ1 → WU w (m_takesUnit_b122 n x σ1) := fun σ1 x h1 => WU_ite (b132 _ _ _ h1) (b132 _ _ _ h1)
  have b90 : ∀ (σ1 : bS) (x : Int32), K8 w σ1 → WU w (m_takesUnit_b90 n x σ1) := fun σ1 x h1 => WU_bin (WU_ite (b122 _ _ h1) (WU_ite (WU_obI w_wrong (fun q => neg _) (fun q hq => WU_some (Or.inl hq))) (b122 _ _ h1)))
  exact WU_obV (w_isSign h) (fun q hq => WU_ite (WU_bin (WU_ite (WU_bin (WU_ite (b90 _ _ hq) (b90 _ _ hq))) (b90 _ _ hq))) (WU_ite (WU_obI w_wrong (fun q => neg _) (fun q hq => WU_some (Or.inl hq))) (WU_obI (w_pass hq) (fun q => neg _) (fun q hq => WU_ob0 (w_await (hq.i (by omega) (by omega))) (fun q hq => WU_some (Or.inl hq))))))
theorem w_joiner {σ : bS} (h : K8 w σ) : WV w (m_joiner n σ) := WV_obV (w_isSign h) (fun q hq => WV_ite (WV_obV (w_isSign hq) (fun q hq => WV_ite (WV_obV (w_isSign hq) (fun q hq => WV_ite (WV_obV (w_isSign hq) (fun q hq => WV_ite (WV_some hq) (WV_some hq))) (WV_some hq))) (WV_some hq))) (WV_some hq))
theorem w_expr_l : ∀ (k : Nat) (x1 x2 : Int32) (σ : bS), K8 w σ → WB w (m_expr_b14 n k x1 x2 σ)
  | 0, _, _, _, _ => fun v σ' e => by cases e
  | k + 1, x1, x2, σ, h => by
    rw [m_expr_b14]
    refine WB_ite (WB_ob0 (w_reduce h) (fun q hq => WB_bz hq)) (WB_obV (w_joiner h) (fun q hq => WB_ite (WB_ite (WB_ite (w_expr_l k _ _ _ hq) (WB_obI (w_takesSign hq) (fun q => WB_bz0) (fun q hq => WB_ob0 (w_reduce hq) (fun q hq => w_expr_l k _ _ _ ((hq.i (by omega) (by omega)).i (by omega) (by omega)))))) (WB_obV (w_rank hq) (fun q hq => WB_ob0 (w_reduce hq) (fun q hq => WB_ob0 (w_await hq) (fun q hq => WB_obI (w_pass hq) (fun q => WB_bz0) (fun q hq => w_expr_l k _ _ _ hq)))))) ?_))
    intro v σ' e
    cases z : m_takesUnit n q.2 with
    | none =>
      rw [z] at e
      cases e
    | some q9 =>
      rw [z, ob_def] at e
      by_cases y : 0 ≤ q9.1
      · have hq9 : K8 w q9.2 := (w_unit hq q9.1 q9.2 z).resolve_right (Int32.not_lt.mpr y)
        rw [if_pos y] at e
        exact WB_ite (w_expr_l k _ _ _ hq9) (w_expr_l k _ _ _ hq9) v σ' e
      · rw [if_neg y] at e
        exact WB_bz0 v σ' e
theorem w_expr {σ : bS} (h : K8 w σ) : WB w (m_expr n σ) := w_expr_l n _ _ _ ((h.i (by omega) (by omega)).i (by omega) (by omega))
theorem w_sumOf {x y : Int32} {σ : bS} (h : K8 w σ) : WB w (m_sumOf n x y σ) := WB_bin (WB_obI (w_expr h) (fun q => WB_bz0) (fun q hq => WB_ite (WB_bz hq) (WB_bin (WB_bin (WB_bin (WB_bz (show K8 w (uA (uA q.2 _ _ _) _ _ _) from hq)))))))
theorem w_law_l : ∀ (k : Nat) (x1 x2 : Int32) (σ : bS), K8 w σ → WB w (m_lawTold_b13 n k x1 x2 σ)
  | 0, _, _, _, _ => fun v σ' e => by cases e
  | k + 1, x1, x2, σ, h => by
    rw [m_lawTold_b13]
    exact WB_obV (w_isWord h) (fun q hq => WB_ite (WB_obI (w_sumOf hq) (fun q => WB_bz0) (fun q hq => WB_ite (WB_bz hq) (WB_bin (WB_bz (show K8 w (uA q.2 _ _ _) from hq))))) (WB_ite (WB_obB w_wrong (fun q hq => WB_bzq hq)) (WB_obI (w_pass hq) (fun q => WB_bz0) (fun q hq => WB_obI (w_sumOf hq) (fun q => WB_bz0) (fun q hq => WB_obI (w_takesSign hq) (fun q => WB_bz0) (fun q hq => WB_obI (w_sumOf hq) (fun q => WB_bz0) (fun q hq => WB_obI (w_takesWord hq) (fun q => WB_bz0) (fun q hq => WB_obI (w_sumOf hq) (fun q => WB_bz0) (fun q hq => WB_obI (w_takesWord hq) (fun q => WB_bz0) (fun q hq => w_law_l k _ _ _ hq))))))))))
theorem w_law {x : Int32} {σ : bS} (h : K8 w σ) : WB w (m_lawTold n x σ) := WB_obI (w_takesSign h) (fun q => WB_bz0) (fun q hq => w_law_l n _ _ _ hq)
theorem w_bank {σ : bS} (h : K8 w σ) : WB w (m_tellBank n σ) := WB_bin (WB_ite (WB_obB w_wrong (fun q hq => WB_bzq hq)) (WB_obI (w_pass h) (fun q => WB_bz0) (fun q hq => WB_bin (WB_obI (w_names hq) (fun q => WB_bz0) (fun q hq => WB_bin (WB_bin (WB_bz (show K8 w (uA q.2 _ _ _) from hq))))))))
theorem w_path {σ : bS} (h : K8 w σ) : WB w (m_tellPath n σ) := by
  have b105 : ∀ (x : Int32) (σ1 : bS), K8 w σ1 → WB w (m_tellPath_b105 n x σ1) := fun x σ1 h1 => WB_obI (w_takesInt h1) (fun q => WB_bz0) (fun q hq => WB_bin (WB_bin (WB_bin (WB_bz (show K8 w (uA (uA q.2 _ _ _) _ _ _) from hq)))))
  exact WB_bin (WB_bin (WB_ite (WB_obB w_wrong (fun q hq => WB_bzq hq)) (WB_obI (w_pass h) (fun q => WB_bz0) (fun q hq => WB_obI (w_takesName hq) (fun q => WB_bz0) (fun q hq => WB_bin (WB_obI (w_takesName (show K8 w (uA q.2 _ _ _) from hq)) (fun q => WB_bz0) (fun q hq => WB_bin (WB_ite (b105 _ _ hq) (WB_bin (WB_ite (WB_ob0 (w_tells (show K8 w (uA q.2 _ _ _) from hq)) (fun q hq => b105 _ _ hq)) (b105 _ _ hq)))))))))))
theorem w_bridge {σ : bS} (h : K8 w σ) : WB w (m_tellBridge n σ) := by
  have b106 : ∀ (σ1 : bS), K8 w σ1 → WB w (m_tellBridge_b106 n σ1) := fun σ1 h1 => WB_bin (WB_bin (WB_bz (show K8 w (uA σ1 _ _ _) from h1)))
  exact WB_bin (WB_bin (WB_ite (WB_obB w_wrong (fun q hq => WB_bzq hq)) (WB_obI (w_pass h) (fun q => WB_bz0) (fun q hq => WB_bin (WB_obI (w_names hq) (fun q => WB_bz0) (fun q hq => WB_obI (w_takesName hq) (fun q => WB_bz0) (fun q hq => WB_bin (WB_bin (WB_bin (WB_ite (WB_obI (w_takesName (show K8 w (uA (uA q.2 _ _ _) _ _ _) from hq)) (fun q => WB_bz0) (fun q hq => WB_bin (b106 _ (show K8 w (uA q.2 _ _ _) from hq)))) (b106 _ (show K8 w (uA (uA q.2 _ _ _) _ _ _) from hq))))))))))))
theorem w_man {σ : bS} (h : K8 w σ) : WB w (m_tellMan n σ) := WB_bin (WB_bin (WB_ite (WB_obB w_wrong (fun q hq => WB_bzq hq)) (WB_obI (w_pass h) (fun q => WB_bz0) (fun q hq => WB_bin (WB_obI (w_names hq) (fun q => WB_bz0) (fun q hq => WB_obI (w_takesName hq) (fun q => WB_bz0) (fun q hq => WB_bin (WB_obI (w_takesName (show K8 w (uA q.2 _ _ _) from hq)) (fun q => WB_bz0) (fun q hq => WB_bin (WB_obI (w_takesInt (show K8 w (uA q.2 _ _ _) from hq)) (fun q => WB_bz0) (fun q hq => WB_bin (WB_bin (WB_bin (WB_bz (show K8 w (uA (uA q.2 _ _ _) _ _ _) from hq)))))))))))))))
theorem w_lawOf {x y : Int32} {σ : bS} (h : K8 w σ) : WB w (m_tellLawOf n x y σ) := WB_obI (w_pass h) (fun q => WB_bz0) (fun q hq => WB_obI (w_takesName hq) (fun q => WB_bz0) (fun q hq => WB_ite (WB_obB (w_law hq) (fun q hq => WB_bzq hq)) (WB_obB (w_law hq) (fun q hq => WB_bzq hq))))
theorem w_rest {x y : Int32} {σ : bS} (h : K8 w σ) : WB w (m_tellRest n x y σ) := WB_obI (w_pass h) (fun q => WB_bz0) (fun q hq => WB_obI (w_takesInt hq) (fun q => WB_bz0) (fun q hq => WB_bin (WB_bz (show K8 w (uA q.2 _ _ _) from hq))))
theorem w_one {σ : bS} (h : K8 w σ) : WB w (m_tellOne n σ) := by
  have b125 : ∀ x, WB w (m_tellOne_b125 n x σ) := fun x => WB_ite (WB_obB (w_rest h) (fun q hq => WB_bzq hq)) (WB_ite (WB_obB (w_rest h) (fun q hq => WB_bzq hq)) (WB_ite (WB_obB (w_rest h) (fun q hq => WB_bzq hq)) (WB_ite (WB_obB (w_rest h) (fun q hq => WB_bzq hq)) (WB_obB w_wrong (fun q hq => WB_bzq hq)))))
  have b26 : ∀ x, WB w (m_tellOne_b26 n x σ) := fun x => WB_ite (WB_obB (w_bank h) (fun q hq => WB_bzq hq)) (WB_ite (WB_obB (w_path h) (fun q hq => WB_bzq hq)) (WB_ite (WB_obB (w_bridge h) (fun q hq => WB_bzq hq)) (WB_ite (WB_obB (w_man h) (fun q hq => WB_bzq hq)) (WB_ite (WB_obB (w_lawOf h) (fun q hq => WB_bzq hq)) (WB_ite (WB_obB (w_lawOf h) (fun q hq => WB_bzq hq)) (WB_ite (b125 _) (WB_ite (b125 _) (WB_obI (w_pass h) (fun q => WB_bz0) (fun q hq => WB_obI (w_law hq) (fun q => WB_bz0) (fun q hq => WB_bz hq))))))))))
  exact WB_bin (WB_ite (WB_bin (b26 _)) (b26 _))
theorem w_parses_l : ∀ (k : Nat) (σ : bS), K8 w σ → WB w (m_parses_b4 n k σ)
  | 0, _, _ => fun v σ' e => by cases e
  | k + 1, σ, h => by
    rw [m_parses_b4]
    exact WB_bin (WB_ite (WB_bz h) (WB_obI (w_one h) (fun q => WB_bz0) (fun q hq => WB_obI (w_takesSign hq) (fun q => WB_bz0) (fun q hq => w_parses_l k _ hq))))
