/-! PRICES: what is left, and digits -/
/-- FANCY of a bank, t hours from now -/
def fan (T : aT) (L : aL) (G : aG) (h m bk t : Nat) : Int32 := match L 13 with
  | none => 0
  | some f => clamp (f (vr T G m (nI bk) (nI ((h + t) % 24)))) cb_m99 cb_99
/-- the first of the banks below j that is liked most -/
def fv (g : Nat → Int32) : Nat → Nat
  | 0 => 0
  | j + 1 => if j = 0 then 0 else if g j ≤ g (fv g j) then fv g j else j
theorem fv_lt (g : Nat → Int32) : ∀ j, 0 < j → fv g j < j
  | 0, h => by omega
  | j + 1, _ => by
    rw [fv]
    by_cases z : j = 0
    · rw [if_pos z]
      omega
    · have := fv_lt g j (by omega)
      rw [if_neg z]
      split <;> omega
/-- digits, the last bank's the lowest -/
def dg (M B n bk : Nat) : Nat := (n / M ^ (B - 1 - bk)) % M
theorem vr_congr {T : aT} {G G' : aG} {m : Nat} {la x : Int32} (e5 : G 5 m = G' 5 m) (e7 : G 7 m = G' 7 m) (e8 : G 8 m = G' 8 m) (e9 : G 9 m = G' 9 m) : vr T G m la x = vr T G' m la x := by
  funext k
  unfold vr
  rw [e5, e7, e8, e9]
abbrev lkg (T : aT) (L : aL) (G : aG) (h : Nat) (pr : Nat → Nat) (m t : Nat) : Nat → Int32 := fun bk => fan T L G h m bk t - nI (pr bk)
theorem m_leave_l {T : aT} {L : aL} {n m h t b : Nat} {G D : aG} {pr : Nat → Nat} (hn : 1000 ≤ n) (hI : InvT T L) (hi : InvG T 5000 D) (hm : m < tM T) (hb : b < tG T) (hh : h + t < 2 ^ 31) (h0 : D 0 0 = nI (h + t)) (h5 : D 5 m = nI (tFoot T b)) (g5 : D 5 m = G 5 m) (g7 : D 7 m = G 7 m) (g8 : D 8 m = G 8 m) (g9 : D 9 m = G 9 m) : ∀ (k j : Nat) (σ : bS), MTx T L σ → MG T 48 D σ → σ.1 0 40 = nI 48 → (∀ bk, bk < tB T → σ.2.1 36 bk = nI (pr bk)) → j ≤ tB T → tB T < j + k → ∃ σ', m_leaves_b7 n k (nI m) (nI (fv (lkg T L G h pr m t) j)) (if j = 0 then 0 else lkg T L G h pr m t (fv (lkg T L G h pr m t) j)) (nI j) σ = some (nI (fv (lkg T L G h pr m t) (tB T)), σ') ∧ frM sc46 sc31 σ σ'
  | 0, j, σ, hT, hD, hw, h36, h1, h2 => by omega
  | k + 1, j, σ, hT, hD, hw, h36, h1, h2 => by
    have hB := hI.1
    rw [m_leaves_b7, bin_c0 (by decide) (by decide), sA_c0, hT.1.1]
    by_cases hj : j < tB T
    · obtain ⟨σ1, σ2, a1, a2, a3, a4⟩ := m_asked (n := n) (h := h + t) (k := 13) (la := nI j) (z := 0) hn hI hT hD hw (by omega) hm hh h0 (hI.2.2.2.2.1 b hb) h5 (Or.inr ⟨j, hj, rfl⟩) (Or.inr (Or.inr (Or.inr (Or.inr rfl))))
      rw [md_n (by omega)] at a1
      have ev : clamp (match L 13 with | none => (0 : Int32) | some f => f (vr T D m (nI j) (nI ((h + t) % 24)))) cb_m99 cb_99 = fan T L G h m j t := by
        unfold fan
        rw [vr_congr (G := D) (G' := G) g5 g7 g8 g9]
        cases L 13 with
        | none => rfl
        | some f => rfl
      have e36 : sA σ2 36 (nI j) = nI (pr j) := by
        rw [sA_n _ _ (by omega), a4.2.1 36 (by decide)]
        exact h36 j hj
      obtain ⟨w, hw2, hw3⟩ : ∃ w, m_lawOf n (nI 13) 0 σ1 = some (w, σ2) ∧ clamp w cb_m99 cb_99 = fan T L G h m j t := ⟨_, a2, ev⟩
      rw [if_neg (nI_ge hj (by omega)), a1, ob_def, cb_13_n, show (ci_0 : Int32) = 0 from ci0_0, hw2, ob_def, within_eq, ob_def]
      simp only [hw3]
      rw [bin_nI (by omega) (by decide), e36, m_leaves_b47]
      have ih := m_leave_l (pr := pr) hn hI hi hm hb hh h0 h5 g5 g7 g8 g9 k (j + 1) σ2 (hT.scr a4) (hD.scr a4) ((a4.1 40 (by decide)).trans hw) (fun bk hbk => by rw [a4.2.1 36 (by decide)]; exact h36 bk hbk) hj (by omega)
      obtain ⟨σ3, c1, c2⟩ := ih
      refine ⟨σ3, ?_, a4.trans c2⟩
      rw [← c1, if_neg (show ¬ j + 1 = 0 by omega)]
      by_cases z : j = 0
      · subst z
        rw [if_pos (show nI 0 = 0 from rfl), m_leaves_b60, m_leaves_b66]
        rfl
      · rw [if_neg (fun u => z (nI_inj (by omega) (by decide) (u.trans (show (0 : Int32) = nI 0 from rfl)))), if_neg z]
        by_cases y : lkg T L G h pr m t j ≤ lkg T L G h pr m t (fv (lkg T L G h pr m t) j)
        · rw [if_pos y, m_leaves_b66, ci1_nI, nI_add, show fv (lkg T L G h pr m t) (j + 1) = fv (lkg T L G h pr m t) j by rw [fv, if_neg z, if_pos y]]
        · rw [if_neg y, m_leaves_b60, m_leaves_b66, ci1_nI, nI_add, show fv (lkg T L G h pr m t) (j + 1) = j by rw [fv, if_neg z, if_neg y]]
    · have e : j = tB T := by omega
      subst e
      rw [if_pos (Int32.le_refl _)]
      exact ⟨σ, rfl, frM.rf⟩
theorem wsh_price {T : aT} {L : aL} {G : aG} {b h n : Nat} {pr : Nat → Nat} (hn : 1000 ≤ n) (hI : InvT T L) (hb : b < tG T) : WshOk T L G b h n (fun m _ t => nI (fv (lkg T L G h pr m t) (tB T))) (fun σ => σ.1 0 53 = 1 ∧ ∀ bk, bk < tB T → σ.2.1 36 bk = nI (pr bk)) := fun σ D m t p r6 hT hD hi hw hm hh h0 h5 g5 g7 g8 g9 hQ => by
  have hB := hI.1
  have e53 : sI σ 0 53 = 1 := hQ.1
  have hf := hI.2.2.2.2.1 b hb
  obtain ⟨σ1, c1, c2⟩ := m_leave_l (n := n) (pr := pr) hn hI hi hm hb hh h0 h5 g5 g7 g8 g9 n 0 σ hT hD hw hQ.2 (by omega) (by omega)
  have := fv_lt (lkg T L G h pr m t) (tB T) (by omega)
  refine ⟨σ1, ?_, c2⟩
  unfold m_rowGoes_b62
  rw [e53, if_neg one_ne]
  unfold m_leaves
  rw [show m_leaves_b7 n n (nI m) ci_0 ci_0 ci_0 σ = _ from c1, ob_def, md_n (by omega)]
/-! which prices bring all home -/
theorem rP_price {ho : Nat → Nat} {f : Nat → Nat} {W : Nat → Nat → Nat → Nat} {R : Nat → Nat} {l0 : Nat} (hW : ∀ p la, W (R p) la p = f p + 1) : (¬ l0 = 0 → ∀ p, rP ho W R (fun _ => false) l0 (p + 1) = some (f p + 1, false) ∧ ho (R 0) + 1 = l0 ∧ (∀ i, i < p → f i = ho (R (i + 1))) ∨ rP ho W R (fun _ => false) l0 (p + 1) = none ∧ ¬ (ho (R 0) + 1 = l0 ∧ ∀ i, i < p → f i = ho (R (i + 1)))) ∧ (l0 = 0 → rP ho W R (fun _ => false) l0 1 = some (f 0 + 1, true) ∧ ∀ p, rP ho W R (fun _ => false) l0 (p + 2) = some (f (p + 1) + 1, false) ∧ ho (R 0) = ho (R 1) ∧ (∀ i, i < p + 1 → f i = ho (R (i + 1))) ∨ rP ho W R (fun _ => false) l0 (p + 2) = none ∧ ¬ (ho (R 0) = ho (R 1) ∧ ∀ i, i < p + 1 → f i = ho (R (i + 1)))) := by
  have n0 : ∀ p, nh (fun _ => false) p = 0 := fun p => by
    induction p with
    | zero => rfl
    | succ p ih => rw [nh, ih]; rfl
  have step : ∀ p, rP ho W R (fun _ => false) l0 (p + 1) = match rP ho W R (fun _ => false) l0 p with
      | none => none
      | some (la, ab) => if ¬ la = 0 ∧ (¬ ho (R p) + 1 = la ∨ (ab = true ∧ ∃ q, q < p ∧ ¬ ho (R q) + 1 = la)) then none else some (f p + 1, decide (la = 0)) := fun p => by
    rw [rP]
    cases rP ho W R (fun _ => false) l0 p with
    | none => rfl
    | some o =>
      obtain ⟨la, ab⟩ := o
      simp only [n0, Nat.add_zero, hW, Bool.false_eq_true, if_false, Nat.add_eq_zero_iff, Nat.one_ne_zero, and_false]
  have none_next : ∀ p, rP ho W R (fun _ => false) l0 p = none → rP ho W R (fun _ => false) l0 (p + 1) = none := fun p e => by rw [step, e]
  have some_next : ∀ p, rP ho W R (fun _ => false) l0 (p + 1) = some (f p + 1, false) → (f p = ho (R (p + 1)) → rP ho W R (fun _ => false) l0 (p + 2) = some (f (p + 1) + 1, false)) ∧ (¬ f p = ho (R (p + 1)) → rP ho W R (fun _ => false) l0 (p + 2) = none) := fun p e => by
    rw [step (p + 1), e]
    constructor
    · intro z
      show (if ¬ f p + 1 = 0 ∧ (¬ ho (R (p + 1)) + 1 = f p + 1 ∨ (false = true ∧ ∃ q, q < p + 1 ∧ ¬ ho (R q) + 1 = f p + 1)) then none else some (f (p + 1) + 1, decide (f p + 1 = 0))) = _
      rw [if_neg (fun u => u.2.elim (fun v => v (by omega)) (fun v => by cases v.1)), decide_eq_false (by omega)]
    · intro z
      show (if ¬ f p + 1 = 0 ∧ (¬ ho (R (p + 1)) + 1 = f p + 1 ∨ (false = true ∧ ∃ q, q < p + 1 ∧ ¬ ho (R q) + 1 = f p + 1)) then none else some (f (p + 1) + 1, decide (f p + 1 = 0))) = _
      rw [if_pos ⟨by omega, Or.inl (by omega)⟩]
  constructor
  · intro h0 p
    induction p with
    | zero =>
      have e : rP ho W R (fun _ => false) l0 1 = if ¬ l0 = 0 ∧ (¬ ho (R 0) + 1 = l0 ∨ (false = true ∧ ∃ q, q < 0 ∧ ¬ ho (R q) + 1 = l0)) then none else some (f 0 + 1, decide (l0 = 0)) := step 0
      by_cases z : ho (R 0) + 1 = l0
      · left
        refine ⟨?_, z, fun i hi => by omega⟩
        rw [e, if_neg (fun u => u.2.elim (fun v => v z) (fun v => by cases v.1)), decide_eq_false h0]
      · right
        exact ⟨by rw [e, if_pos ⟨h0, Or.inl z⟩], fun u => z u.1⟩
    | succ p ih =>
      rcases ih with ⟨e, z, a⟩ | ⟨e, a⟩
      · by_cases y : f p = ho (R (p + 1))
        · left
          refine ⟨(some_next p e).1 y, z, fun i hi => ?_⟩
          by_cases u : i = p
          · subst u
            exact y
          · exact a i (by omega)
        · right
          exact ⟨(some_next p e).2 y, fun u => y (u.2 p (by omega))⟩
      · right
        exact ⟨none_next _ e, fun u => a ⟨u.1, fun i hi => u.2 i (by omega)⟩⟩
  · intro h0
    subst h0
    have e1 : rP ho W R (fun _ => false) 0 1 = some (f 0 + 1, true) := by
      have e : rP ho W R (fun _ => false) 0 1 = if ¬ 0 = 0 ∧ (¬ ho (R 0) + 1 = 0 ∨ (false = true ∧ ∃ q, q < 0 ∧ ¬ ho (R q) + 1 = 0)) then none else some (f 0 + 1, decide (0 = 0)) := step 0
      rw [e, if_neg (fun u => u.1 rfl)]
      rfl
    refine ⟨e1, fun p => ?_⟩
    induction p with
    | zero =>
      have e : rP ho W R (fun _ => false) 0 2 = if ¬ f 0 + 1 = 0 ∧ (¬ ho (R 1) + 1 = f 0 + 1 ∨ (true = true ∧ ∃ q, q < 1 ∧ ¬ ho (R q) + 1 = f 0 + 1)) then none else some (f 1 + 1, decide (f 0 + 1 = 0)) := by
        rw [step 1, e1]
      by_cases z : ho (R 0) = ho (R 1) ∧ f 0 = ho (R 1)
      · left
        refine ⟨?_, z.1, fun i hi => ?_⟩
        · rw [e, if_neg (fun u => u.2.elim (fun v => v (by omega)) (fun v => by
            obtain ⟨-, q, hq, t⟩ := v
            have : q = 0 := by omega
            subst this
            omega)), decide_eq_false (by omega)]
        · have : i = 0 := by omega
          subst this
          exact z.2
      · right
        refine ⟨?_, fun u => z ⟨u.1, u.2 0 (by omega)⟩⟩
        rw [e, if_pos]
        refine ⟨by omega, ?_⟩
        by_cases y : f 0 = ho (R 1)
        · exact Or.inr ⟨rfl, 0, by omega, fun t => z ⟨by omega, y⟩⟩
        · exact Or.inl (fun t => y (by omega))
    | succ p ih =>
      rcases ih with ⟨e, z, a⟩ | ⟨e, a⟩
      · by_cases y : f (p + 1) = ho (R (p + 2))
        · left
          refine ⟨(some_next (p + 1) e).1 y, z, fun i hi => ?_⟩
          by_cases u : i = p + 1
          · subst u
            exact y
          · exact a i (by omega)
        · right
          exact ⟨(some_next (p + 1) e).2 y, fun u => y (u.2 (p + 1) (by omega))⟩
      · right
        exact ⟨none_next _ e, fun u => a ⟨u.1, fun i hi => u.2 i (by omega)⟩⟩
theorem okP_price {ho : Nat → Nat} {f : Nat → Nat} {W : Nat → Nat → Nat → Nat} {R : Nat → Nat} {l0 c : Nat} (hc : 0 < c) (hW : ∀ p la, W (R p) la p = f p + 1) : okP (rP ho W R (fun _ => false) l0 c) = true ↔ ((¬ l0 = 0 → ho (R 0) + 1 = l0) ∧ (l0 = 0 → 2 ≤ c ∧ ho (R 0) = ho (R 1))) ∧ ∀ i, i + 1 < c → f i = ho (R (i + 1)) := by
  obtain ⟨P, S⟩ := rP_price (ho := ho) (f := f) (W := W) (R := R) (l0 := l0) hW
  by_cases z : l0 = 0
  · obtain ⟨e1, S2⟩ := S z
    by_cases c1 : c = 1
    · subst c1
      rw [e1]
      constructor
      · intro u
        cases u
      · intro u
        have := (u.1.2 z).1
        omega
    · obtain ⟨p, rfl⟩ : ∃ p, c = p + 2 := ⟨c - 2, by omega⟩
      rcases S2 p with ⟨e, y, a⟩ | ⟨e, a⟩
      · rw [e]
        exact ⟨fun _ => ⟨⟨fun u => absurd z u, fun _ => ⟨by omega, y⟩⟩, fun i hi => a i (by omega)⟩, fun _ => rfl⟩
      · rw [e]
        constructor
        · intro u
          cases u
        · intro u
          exact absurd ⟨(u.1.2 z).2, fun i hi => u.2 i (by omega)⟩ a
  · obtain ⟨p, rfl⟩ : ∃ p, c = p + 1 := ⟨c - 1, by omega⟩
    rcases P z p with ⟨e, y, a⟩ | ⟨e, a⟩
    · rw [e]
      exact ⟨fun _ => ⟨⟨fun _ => y, fun u => absurd u z⟩, fun i hi => a i (by omega)⟩, fun _ => rfl⟩
    · rw [e]
      constructor
      · intro u
        cases u
      · intro u
        exact absurd ⟨u.1.1 z, fun i hi => u.2 i (by omega)⟩ a
/-! the reference lays prices by a number -/
theorem dg_lt {M B n bk : Nat} (hM : 0 < M) : dg M B n bk < M := Nat.mod_lt _ hM
theorem m_lay_l {n m B code : Nat} (hm : m ≤ 3) (hB : B ≤ 6) (hcode : code < 2 ^ 31) : ∀ (k j : Nat) (σ : bS), (∀ bk, bk < B → B ≤ bk + j → σ.2.1 36 bk = nI (dg (m + 1) B code bk)) → j ≤ B → B < j + k → ∃ σ', m_laysPrices_b15 n k (nI m) (nI (code / (m + 1) ^ j)) (nI (sm (dg (m + 1) B code) B - sm (dg (m + 1) B code) (B - j))) (nI (B - j) - ci_1) σ = some (nI (sm (dg (m + 1) B code) B), σ') ∧ (∀ bk, bk < B → σ'.2.1 36 bk = nI (dg (m + 1) B code bk)) ∧ frM (fun _ => False) (fun a => a = 36) σ σ'
  | 0, j, σ, a, h1, h2 => by omega
  | k + 1, j, σ, a, h1, h2 => by
    rw [m_laysPrices_b15]
    by_cases hj : j < B
    · have ej : nI (B - j) - ci_1 = nI (B - j - 1) := by rw [ci1_nI, nI_sub (by omega)]
      have hd : code / (m + 1) ^ j ≤ code := Nat.div_le_self _ _
      have ed : (code / (m + 1) ^ j) % (m + 1) = dg (m + 1) B code (B - j - 1) := by
        unfold dg
        rw [show B - 1 - (B - j - 1) = j by omega]
      have rd : sA (uA σ 36 (nI (B - j - 1)) (nI (dg (m + 1) B code (B - j - 1)))) 36 (nI (B - j - 1)) = nI (dg (m + 1) B code (B - j - 1)) := by
        rw [sA_n _ _ (by omega), uA_2, nI_clamp (by omega), if_pos ⟨rfl, rfl⟩]
      have sB : sm (dg (m + 1) B code) (B - j) = sm (dg (m + 1) B code) (B - j - 1) + dg (m + 1) B code (B - j - 1) := by
        rw [show B - j = (B - j - 1) + 1 by omega, sm]
        rfl
      have le : ∀ x y : Nat, sm (dg (m + 1) B code) x ≤ sm (dg (m + 1) B code) (x + y) := fun x y => by
        induction y with
        | zero => exact Nat.le_refl _
        | succ y ih => exact Nat.le_trans ih (Nat.le_add_right _ _)
      have le2 := le (B - j) j
      rw [show B - j + j = B by omega] at le2
      rw [ej, if_neg (nI_pos (by omega)), ci1_nI, nI_add, if_neg (show ¬ nI (m + 1) = 0 from fun u => absurd (nI_inj (by omega) (by decide) (u.trans (show (0 : Int32) = nI 0 from rfl))) (by omega)), bin_nI (by omega) (by decide), bin_nI (by omega) (by decide), if_neg (show ¬ nI (m + 1) = 0 from fun u => absurd (nI_inj (by omega) (by decide) (u.trans (show (0 : Int32) = nI 0 from rfl))) (by omega)), brem_n (by omega) (by omega) (by omega), ed, rd, nI_div (by omega) (by omega) (by omega), nI_add, m_laysPrices_b53, Nat.div_div_eq_div_mul, ← Nat.pow_succ]
      have e2 : nI (B - j - 1) + ci_m1 = nI (B - (j + 1)) - ci_1 := by
        rw [show B - j - 1 = B - (j + 1) by omega, Int32.sub_eq_add_neg]
        rfl
      rw [e2, show sm (dg (m + 1) B code) B - sm (dg (m + 1) B code) (B - j) + dg (m + 1) B code (B - j - 1) = sm (dg (m + 1) B code) B - sm (dg (m + 1) B code) (B - (j + 1)) by rw [show B - (j + 1) = B - j - 1 by omega]; omega]
      obtain ⟨σ2, c1, c2, c3⟩ := m_lay_l (n := n) hm hB hcode k (j + 1) (uA σ 36 (nI (B - j - 1)) (nI (dg (m + 1) B code (B - j - 1)))) (fun bk x y => by
        rw [uA_2, nI_clamp (by omega)]
        by_cases z : bk = B - j - 1
        · rw [if_pos ⟨rfl, z⟩, z]
        · rw [if_neg (fun u => z u.2)]
          exact a bk x (by omega)) hj (by omega)
      exact ⟨σ2, c1, c2, frM.trans (frM.uA (PI := fun _ => False) (PA := fun a => a = 36) rfl) c3⟩
    · have e : j = B := by omega
      subst e
      rw [Nat.sub_self, if_pos (show nI 0 - ci_1 < 0 by decide)]
      refine ⟨σ, ?_, fun bk hbk => a bk hbk (by omega), frM.rf⟩
      rw [sm, Nat.sub_zero]
/-! the best of the prices so far -/
def bs (S : Nat → Nat) (gd : Nat → Bool) : Nat → Option Nat
  | 0 => none
  | n + 1 => if (match bs S gd n with | none => true | some c => decide (S n < S c)) = true ∧ gd n = true then some n else bs S gd n
