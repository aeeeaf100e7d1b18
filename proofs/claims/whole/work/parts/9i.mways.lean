/-! WAYS: the reference -/
def FS (F : Nat → Nat) (σ : bS) : Prop := ∀ a, a < 96 → σ.2.1 33 a = nI (F a)
/-- whether something became less -/
def Fl (F0 F : Nat → Nat) (fl : Bool) : Prop := (fl = false → ∀ a, a < 96 → F a = F0 a) ∧ (fl = true → sm F 96 < sm F0 96)
theorem Fl.come {F0 F : Nat → Nat} {fl : Bool} {v x : Nat} (H : Fl F0 F fl) (hv : v < 96) : Fl F0 (mnK F v x) (fl || decide (x < F v)) := by
  by_cases z : x < F v
  · rw [decide_eq_true z, Bool.or_true]
    refine ⟨fun u => (by cases u), fun _ => ?_⟩
    have e : sm F 96 = sm (mnK F v x) 96 + (F v - x) := sm_upd (l0 := v) 96 hv (fun k hk ne => by
      show (if k = v then _ else F k) = F k
      rw [if_neg ne]) (by
      show F v = (if v = v then (if x < F v then x else F v) else F v) + (F v - x)
      rw [if_pos rfl, if_pos z]
      omega)
    have le : sm F 96 ≤ sm F0 96 := by
      cases fl
      · rw [sm_congr 96 (H.1 rfl)]
        exact Nat.le_refl _
      · have := H.2 rfl
        omega
    omega
  · rw [decide_eq_false z, Bool.or_false]
    have e : ∀ a, a < 96 → mnK F v x a = F a := fun a ha => by
      show (if a = v then (if x < F a then x else F a) else F a) = F a
      by_cases y : a = v
      · subst y
        rw [if_pos rfl, if_neg z]
      · rw [if_neg y]
    refine ⟨fun u a ha => by rw [e a ha]; exact H.1 u a ha, fun u => ?_⟩
    rw [sm_congr 96 e]
    exact H.2 u
theorem m_near {n v x : Nat} {F : Nat → Nat} {σ : bS} (hv : v < 96) (hx : x < 2 ^ 31) (hF : ∀ a, a < 96 → F a < 2 ^ 31) (H : FS F σ) : ∃ σ', m_nears n (nI v) (nI x) σ = some (if x < F v then 1 else 0, σ') ∧ FS (mnK F v x) σ' ∧ frM (fun _ => False) (fun a => a = 33) σ σ' := by
  have e33 : sA σ 33 (nI v) = nI (F v) := (sA_n _ _ (by omega)).trans (H v hv)
  unfold m_nears
  rw [bin_nI hv (by decide), e33]
  by_cases z : x < F v
  · rw [if_pos ((nI_ltI hx (hF v hv)).mpr z), bin_nI hv (by decide), if_pos z]
    refine ⟨_, rfl, fun a ha => ?_, frM.uA rfl⟩
    rw [uA_2, nI_clamp (by omega)]
    show _ = nI (if a = v then (if x < F a then x else F a) else F a)
    by_cases y : a = v
    · subst y
      rw [if_pos ⟨rfl, rfl⟩, if_pos rfl, if_pos z]
    · rw [if_neg (fun u => y u.2), if_neg y]
      exact H a ha
  · rw [if_neg (fun u => z ((nI_ltI hx (hF v hv)).mp u)), if_neg z]
    refine ⟨σ, rfl, fun a ha => ?_, frM.rf⟩
    show _ = nI (if a = v then (if x < F a then x else F a) else F a)
    by_cases y : a = v
    · subst y
      rw [if_pos rfl, if_neg z]
      exact H a ha
    · rw [if_neg y]
      exact H a ha
def flI (fl : Bool) : Int32 := if fl = true then 1 else 0
theorem m_near_go {fl : Bool} {c : Prop} [Decidable c] {β : Type} {A : Int32 → β} : (if (if c then (1 : Int32) else 0) = 0 then A (flI fl) else A ci_1) = A (flI (fl || decide c)) := by
  by_cases z : c
  · rw [if_pos z, if_neg one_ne, decide_eq_true z, Bool.or_true]
    rfl
  · rw [if_neg z, if_pos rfl, decide_eq_false z, Bool.or_false]
abbrev fr33 (σ σ' : bS) : Prop := frM (fun _ => False) (fun a => a = 33) σ σ'
theorem m_paths_l {T : aT} {L : aL} {ll : Nat → Nat} {n x : Nat} {F0 : Nat → Nat} (hn : 20 ≤ n) (hI : InvT T L) (hx : x < 96) (hxb : x / 16 < tB T) (k0 : ∀ a, a < 96 → F0 a ≤ 1000000) : ∀ (k j : Nat) (σ : bS) (F : Nat → Nat) (fl : Bool), MTx T L σ → FS F σ → RP T ll x 1000 F0 F (Dp T x j) → Fl F0 F fl → j ≤ tB T → tB T < j + k → ∃ σ' F' fl', m_goesOn_b16 n k (nI x) (nI (x / 16)) (nI (x % 16)) (flI fl) (nI j) σ = m_goesOn_b90 n n (nI x) (nI (x / 16)) (nI (x % 16)) (flI fl') ci_0 σ' ∧ FS F' σ' ∧ RP T ll x 1000 F0 F' (Dp T x (tB T)) ∧ Fl F0 F' fl' ∧ fr33 σ σ'
  | 0, j, σ, F, fl, hT, H, R, hf, h1, h2 => by omega
  | k + 1, j, σ, F, fl, hT, H, R, hf, h1, h2 => by
    have hB := hI.1
    rw [m_goesOn_b16, bin_c0 (by decide) (by decide), sA_c0, hT.1.1]
    by_cases hj : j < tB T
    · have w9 := hI.2.2.2.2.2.2.2.2.1 (x / 16) j
      have skip : tWalk T (x / 16) j = 0 → ∃ σ' F' fl', m_goesOn_b81 n (m_goesOn_b16 n k) (nI x) (nI (x / 16)) (nI (x % 16)) (flI fl) (nI j) σ = m_goesOn_b90 n n (nI x) (nI (x / 16)) (nI (x % 16)) (flI fl') ci_0 σ' ∧ FS F' σ' ∧ RP T ll x 1000 F0 F' (Dp T x (tB T)) ∧ Fl F0 F' fl' ∧ fr33 σ σ' := fun z => by
        rw [m_goesOn_b81, ci1_nI, nI_add]
        exact m_paths_l hn hI hx hxb k0 k (j + 1) σ F fl hT H (R.weak (fun v h c ⟨to, a1, a2, a3⟩ => ⟨to, by
          by_cases y : to = j
          · subst y
            omega
          · omega, a2, a3⟩)) hf hj (by omega)
      rw [if_neg (nI_ge hj (by omega))]
      by_cases y : j = x / 16
      · rw [if_pos (by rw [y]), m_goesOn_b44, if_pos (show ci_0 ≤ 0 by decide)]
        exact skip (by rw [y]; exact hI.2.2.2.2.2.2.2.2.2.1 _)
      · have ep := hT.2.2.2.2.1 (x / 16) j n σ hxb hj hn (eqH.of rfl) (eqH.of rfl) (eqH.of rfl) (eqH.of rfl)
        rw [if_neg (fun u => y (nI_inj (by omega) (by omega) u)), ep, ob_def, m_goesOn_b44]
        by_cases z : tWalk T (x / 16) j = 0
        · rw [z, if_pos (show (nI 0 : Int32) ≤ 0 from Int32.le_refl _)]
          exact skip z
        · have ks := R.self hI (by decide) hx
          have kx := k0 x hx
          have e33 : sA σ 33 (nI x) = nI (F0 x) := (sA_n _ _ (by omega)).trans ((H x hx).trans (by rw [ks]))
          obtain ⟨σ1, c1, c2, c3⟩ := m_near (n := n) (v := 16 * j + x % 16) (x := F0 x + 1000 * tWalk T (x / 16) j + 0) (F := F) (by omega) (by omega) (fun a ha => by have := R.1 a ha; have := k0 a ha; omega) H
          rw [if_neg (show ¬ nI (tWalk T (x / 16) j) ≤ 0 from nI_ge (a := 0) (by omega) (by omega)), bin_nI hx (by decide)]
          show ∃ σ' F' fl', (ob (m_nears n ((cb_16 * nI j) + nI (x % 16)) ((sA σ 33 (nI x)) + (cs_1000 * nI (tWalk T (x / 16) j))) σ) fun q2 => if q2.1 = 0 then m_goesOn_b81 n (m_goesOn_b16 n k) (nI x) (nI (x / 16)) (nI (x % 16)) (flI fl) (nI j) q2.2 else m_goesOn_b81 n (m_goesOn_b16 n k) (nI x) (nI (x / 16)) (nI (x % 16)) ci_1 (nI j) q2.2) = _ ∧ _
          rw [e33, cb_16_n, nI_mul, nI_add, cs_1000_n, nI_mul, nI_add, show F0 x + 1000 * tWalk T (x / 16) j = F0 x + 1000 * tWalk T (x / 16) j + 0 from rfl, c1, ob_def]
          have key : (if (if F0 x + 1000 * tWalk T (x / 16) j + 0 < F (16 * j + x % 16) then (1 : Int32) else 0) = 0 then m_goesOn_b81 n (m_goesOn_b16 n k) (nI x) (nI (x / 16)) (nI (x % 16)) (flI fl) (nI j) σ1 else m_goesOn_b81 n (m_goesOn_b16 n k) (nI x) (nI (x / 16)) (nI (x % 16)) ci_1 (nI j) σ1) = m_goesOn_b81 n (m_goesOn_b16 n k) (nI x) (nI (x / 16)) (nI (x % 16)) (flI (fl || decide (F0 x + 1000 * tWalk T (x / 16) j + 0 < F (16 * j + x % 16)))) (nI j) σ1 := m_near_go (A := fun y => m_goesOn_b81 n (m_goesOn_b16 n k) (nI x) (nI (x / 16)) (nI (x % 16)) y (nI j) σ1)
          show ∃ σ' F' fl', (if (if F0 x + 1000 * tWalk T (x / 16) j + 0 < F (16 * j + x % 16) then (1 : Int32) else 0) = 0 then m_goesOn_b81 n (m_goesOn_b16 n k) (nI x) (nI (x / 16)) (nI (x % 16)) (flI fl) (nI j) σ1 else m_goesOn_b81 n (m_goesOn_b16 n k) (nI x) (nI (x / 16)) (nI (x % 16)) ci_1 (nI j) σ1) = _ ∧ _
          rw [key]
          rw [m_goesOn_b81, ci1_nI, nI_add]
          have R1 := R.come (L := L) (e := Or.inl ⟨j, hj, by omega, rfl, rfl, rfl⟩)
          obtain ⟨σ2, F2, fl2, d1, d2, d3, d4, d5⟩ := m_paths_l (n := n) hn hI hx hxb k0 k (j + 1) σ1 _ _ (hT.of (fun a x y => c3.2.1 a (by omega))) c2 (R1.weak (fun v h c ⟨to, a1, a2, a3, a4, a5⟩ => by
            by_cases y : to = j
            · subst y
              exact Or.inr ⟨a3, a4, a5⟩
            · exact Or.inl ⟨to, by omega, a2, a3, a4, a5⟩)) (hf.come (show 16 * j + x % 16 < 96 by omega)) hj (by omega)
          exact ⟨σ2, F2, fl2, d1, d2, d3, d4, c3.trans d5⟩
    · have e : j = tB T := by omega
      subst e
      rw [if_pos (Int32.le_refl _)]
      exact ⟨σ, F, fl, rfl, H, R, hf, frM.rf⟩
theorem m_lead_l {T : aT} {L : aL} {ll : Nat → Nat} {n x g : Nat} {F0 : Nat → Nat} {Dn : Nat → Nat → Nat → Prop} {G : aG} {r90 : Int32 → Int32 → Int32 → Int32 → Int32 → bS → Option (Int32 × bS)} (hI : InvT T L) (hx : x < 96) (hg : g < tG T) (hfo : tFoot T g = x / 16) (hG3 : G 3 g = lI (ll g)) (hlb : ll g ≤ tB T) (hl : (x % 16).testBit g = true → ¬ ll g = 0) (k0 : ∀ a, a < 96 → F0 a ≤ 1000000) : ∀ (k j : Nat) (σ : bS) (F : Nat → Nat) (fl : Bool), MTx T L σ → MG T 0 G σ → FS F σ → RP T ll x 1000 F0 F (fun v h c => Dn v h c ∨ Db T ll x g j v h c) → Fl F0 F fl → j ≤ tB T → tB T < j + k → ∃ σ' F' fl', m_goesOn_b135 n r90 k (nI x) (nI (x / 16)) (nI (x % 16)) (flI fl) (nI g) (flI ((x % 16).testBit g)) (nI j) σ = r90 (nI x) (nI (x / 16)) (nI (x % 16)) (flI fl') (nI (g + 1)) σ' ∧ FS F' σ' ∧ RP T ll x 1000 F0 F' (fun v h c => Dn v h c ∨ Db T ll x g (tB T) v h c) ∧ Fl F0 F' fl' ∧ fr33 σ σ'
  | 0, j, σ, F, fl, hT, hG, H, R, hf, h1, h2 => by omega
  | k + 1, j, σ, F, fl, hT, hG, H, R, hf, h1, h2 => by
    have hB := hI.1
    have hGG := hI.2.2.1
    have kx := k0 x hx
    rw [m_goesOn_b135, bin_c0 (by decide) (by decide), sA_c0, hT.1.1]
    by_cases hj : j < tB T
    · have o16 := or16 (s := x % 16) (g := g) (by omega) (by omega)
      have ks := R.self hI (by decide) hx
      have e33 : sA σ 33 (nI x) = nI (F0 x) := (sA_n _ _ (by omega)).trans ((H x hx).trans (by rw [ks]))
      have e29 : sA σ 29 (ci_1 + nI g) = md (lI (ll g)) := by
        rw [ci1_nI, nI_add, sA_n _ _ (by omega), ← hG3]
        have := (hG.2.1 g hg).1
        rwa [show 0 + 1 + g = 1 + g by omega] at this
      -- such a bank is led to
      have yes : ((ll g = j + 1 ∧ (x % 16).testBit g = false) ∨ ((x % 16).testBit g = true ∧ ¬ ll g = 0)) → ∃ σ' F' fl', m_goesOn_b165 n r90 (m_goesOn_b135 n r90 k) (nI x) (nI (x / 16)) (nI (x % 16)) (flI fl) (nI g) (flI ((x % 16).testBit g)) (nI j) σ = r90 (nI x) (nI (x / 16)) (nI (x % 16)) (flI fl') (nI (g + 1)) σ' ∧ FS F' σ' ∧ RP T ll x 1000 F0 F' (fun v h c => Dn v h c ∨ Db T ll x g (tB T) v h c) ∧ Fl F0 F' fl' ∧ fr33 σ σ' := fun ld => by
        obtain ⟨σ1, c1, c2, c3⟩ := m_near (n := n) (v := 16 * j + (x % 16 ||| 2 ^ g)) (x := F0 x + 1000 * 1 + 1) (F := F) (by omega) (by omega) (fun a ha => by have := R.1 a ha; have := k0 a ha; omega) H
        unfold m_goesOn_b165 m_goesOn_b170
        rw [if_neg (show ¬ ci_1 = 0 by decide), bin_nI hx (by decide), e33, cb_16_n, nI_mul, ci1_1, one_shl (by omega), nI_or, nI_add, cs_1001_n, nI_add, show F0 x + 1001 = F0 x + 1000 * 1 + 1 by omega, c1, ob_def]
        have key : (if (if F0 x + 1000 * 1 + 1 < F (16 * j + (x % 16 ||| 2 ^ g)) then (1 : Int32) else 0) = 0 then m_goesOn_b209 n r90 (m_goesOn_b135 n r90 k) (nI x) (nI (x / 16)) (nI (x % 16)) (flI fl) (nI g) (flI ((x % 16).testBit g)) (nI j) σ1 else m_goesOn_b209 n r90 (m_goesOn_b135 n r90 k) (nI x) (nI (x / 16)) (nI (x % 16)) ci_1 (nI g) (flI ((x % 16).testBit g)) (nI j) σ1) = m_goesOn_b209 n r90 (m_goesOn_b135 n r90 k) (nI x) (nI (x / 16)) (nI (x % 16)) (flI (fl || decide (F0 x + 1000 * 1 + 1 < F (16 * j + (x % 16 ||| 2 ^ g))))) (nI g) (flI ((x % 16).testBit g)) (nI j) σ1 := m_near_go (A := fun y => m_goesOn_b209 n r90 (m_goesOn_b135 n r90 k) (nI x) (nI (x / 16)) (nI (x % 16)) y (nI g) (flI ((x % 16).testBit g)) (nI j) σ1)
        show ∃ σ' F' fl', (if (if F0 x + 1000 * 1 + 1 < F (16 * j + (x % 16 ||| 2 ^ g)) then (1 : Int32) else 0) = 0 then m_goesOn_b209 n r90 (m_goesOn_b135 n r90 k) (nI x) (nI (x / 16)) (nI (x % 16)) (flI fl) (nI g) (flI ((x % 16).testBit g)) (nI j) σ1 else m_goesOn_b209 n r90 (m_goesOn_b135 n r90 k) (nI x) (nI (x / 16)) (nI (x % 16)) ci_1 (nI g) (flI ((x % 16).testBit g)) (nI j) σ1) = _ ∧ _
        rw [key]
        rw [m_goesOn_b209, show (nI j + ci_1 : Int32) = nI (j + 1) from nI_add j 1]
        have R1 := R.come (L := L) (v := 16 * j + (x % 16 ||| 2 ^ g)) (h := 1) (c := 1) (e := Or.inr ⟨g, j, hg, hj, hfo, ld, rfl, rfl, rfl⟩)
        obtain ⟨σ2, F2, fl2, d1, d2, d3, d4, d5⟩ := m_lead_l (n := n) (r90 := r90) (Dn := Dn) hI hx hg hfo hG3 hlb hl k0 k (j + 1) σ1 _ _ (hT.of (fun a x y => c3.2.1 a (by omega))) (by unfold MG; rw [c3.2.1 29 (by decide)]; exact hG) c2 (R1.weak (fun v h c d => by
          rcases d with d | ⟨to, a1, a2, a3, a4, a5, a6⟩
          · exact Or.inl (Or.inl d)
          · by_cases y : to = j
            · subst y
              exact Or.inr ⟨a4, a5, a6⟩
            · exact Or.inl (Or.inr ⟨to, by omega, a2, a3, a4, a5, a6⟩))) (hf.come (show 16 * j + (x % 16 ||| 2 ^ g) < 96 by omega)) hj (by omega)
        exact ⟨σ2, F2, fl2, d1, d2, d3, d4, c3.trans d5⟩
      rw [if_neg (nI_ge hj (by omega))]
      cases bit : (x % 16).testBit g
      · rw [bit] at yes
        rw [show flI false = 0 from rfl] at yes ⊢
        rw [if_pos rfl, show bin_ (ci_1 + nI g) 2208 = bin_ (nI (1 + g)) 2208 by rw [ci1_nI, nI_add], bin_nI (by omega) (by decide), e29]
        have em : md (lI (ll g)) = nI j ↔ ll g = j + 1 := by
          by_cases z : ll g = 0
          · rw [z]
            exact ⟨fun u => absurd u (by
              have : j = 0 ∨ j = 1 ∨ j = 2 ∨ j = 3 ∨ j = 4 ∨ j = 5 := by omega
              rcases this with e | e | e | e | e | e <;> rw [e] <;> decide), fun u => by omega⟩
          · rw [show lI (ll g) = nI (ll g - 1) from if_neg z, md_n (by omega)]
            exact ⟨fun u => by have := nI_inj (by omega) (by omega) u; omega, fun u => by congr 1; omega⟩
        by_cases z : ll g = j + 1
        · rw [if_pos (em.mpr z)]
          exact yes (Or.inl ⟨z, rfl⟩)
        · rw [if_neg (fun u => z (em.mp u)), m_goesOn_b170, if_pos (show ci_0 = 0 by decide), m_goesOn_b209, show (nI j + ci_1 : Int32) = nI (j + 1) from nI_add j 1]
          have ih := m_lead_l (n := n) (r90 := r90) (Dn := Dn) hI hx hg hfo hG3 hlb hl k0 k (j + 1) σ F fl hT hG H (R.weak (fun v h c d => by
            rcases d with d | ⟨to, a1, a2, a3, a4, a5, a6⟩
            · exact Or.inl d
            · by_cases y : to = j
              · subst y
                rcases a3 with a3 | a3
                · exact absurd a3.1 z
                · rw [bit] at a3
                  cases a3.1
              · exact Or.inr ⟨to, by omega, a2, a3, a4, a5, a6⟩)) hf hj (by omega)
          rw [bit] at ih
          exact ih
      · rw [bit] at yes
        rw [show flI true = 1 from rfl] at yes ⊢
        rw [if_neg one_ne]
        exact yes (Or.inr ⟨rfl, hl bit⟩)
    · have e : j = tB T := by omega
      subst e
      rw [if_pos (Int32.le_refl _), m_goesOn_b215, ci1_nI, nI_add]
      exact ⟨σ, F, fl, rfl, H, R, hf, frM.rf⟩
theorem m_brid_l {T : aT} {L : aL} {ll : Nat → Nat} {n x : Nat} {F0 : Nat → Nat} {G : aG} (hn : 20 ≤ n) (hI : InvT T L) (hx : x < 96) (hll : ∀ g, g < tG T → G 3 g = lI (ll g) ∧ ll g ≤ tB T) (hv : ∀ g, g < tG T → (x % 16).testBit g = true → ¬ ll g = 0) (k0 : ∀ a, a < 96 → F0 a ≤ 1000000) : ∀ (k j : Nat) (σ : bS) (F : Nat → Nat) (fl : Bool), MTx T L σ → MG T 0 G σ → FS F σ → RP T ll x 1000 F0 F (Dg T ll x j) → Fl F0 F fl → j ≤ tG T → tG T < j + k → ∃ σ' F' fl', m_goesOn_b90 n k (nI x) (nI (x / 16)) (nI (x % 16)) (flI fl) (nI j) σ = some (flI fl', σ') ∧ FS F' σ' ∧ RP T ll x 1000 F0 F' (Dg T ll x (tG T)) ∧ Fl F0 F' fl' ∧ fr33 σ σ'
  | 0, j, σ, F, fl, hT, hG, H, R, hf, h1, h2 => by omega
  | k + 1, j, σ, F, fl, hT, hG, H, R, hf, h1, h2 => by
    have hB := hI.1
    have hGG := hI.2.2.1
    rw [m_goesOn_b90, bin_c0 (by decide) (by decide), sA_c0, hT.1.2.2.1]
    by_cases hj : j < tG T
    · have e18 : sA σ 18 (nI j) = nI (tFoot T j) := (sA_n _ _ (by omega)).trans (hT.2.2.1 j hj)
      have fo := hI.2.2.2.2.1 j hj
      rw [if_neg (nI_ge hj (by omega)), bin_nI (by omega) (by decide), e18]
      by_cases z : tFoot T j = x / 16
      · obtain ⟨σ1, F1', fl1, c1, c2, c3, c4, c5⟩ := m_lead_l (n := n) (r90 := m_goesOn_b90 n k) (Dn := Dg T ll x j) hI hx hj z (hll j hj).1 (hll j hj).2 (hv j hj) k0 n 0 σ F fl hT hG H (R.weak (fun v h c d => by
          rcases d with d | ⟨to, a1, -⟩
          · exact d
          · omega)) hf (by omega) (by omega)
        have key : (if ((nI (x % 16) >>> (nI j &&& 31)) &&& ci_1) = ci_1 then m_goesOn_b130 n (m_goesOn_b90 n k) (nI x) (nI (x / 16)) (nI (x % 16)) (flI fl) (nI j) ci_1 σ else m_goesOn_b130 n (m_goesOn_b90 n k) (nI x) (nI (x / 16)) (nI (x % 16)) (flI fl) (nI j) ci_0 σ) = m_goesOn_b135 n (m_goesOn_b90 n k) n (nI x) (nI (x / 16)) (nI (x % 16)) (flI fl) (nI j) (flI ((x % 16).testBit j)) (nI 0) σ := by
          cases bit : (x % 16).testBit j
          · rw [if_neg (fun u => by
              have := (bit_is (s := x % 16) (by omega) (by omega)).mp u
              rw [bit] at this
              cases this)]
            rfl
          · rw [if_pos ((bit_is (s := x % 16) (by omega) (by omega)).mpr bit)]
            rfl
        rw [if_pos (by rw [z]), key, c1]
        obtain ⟨σ2, F2', fl2, d1, d2, d3, d4, d5⟩ := m_brid_l (n := n) hn hI hx hll hv k0 k (j + 1) σ1 F1' fl1 (hT.of (fun a x y => c5.2.1 a (by omega))) (by unfold MG; rw [c5.2.1 29 (by decide)]; exact hG) c2 (c3.weak (fun v h c d => by
          rcases d with d | ⟨g, hg, d⟩
          · exact Or.inl (Or.inl d)
          · by_cases t : g = j
            · subst t
              exact Or.inr d
            · exact Or.inl (Or.inr ⟨g, by omega, d⟩))) c4 hj (by omega)
        exact ⟨σ2, F2', fl2, d1, d2, d3, d4, c5.trans d5⟩
      · rw [if_neg (fun u => z (nI_inj (by omega) (by omega) u)), m_goesOn_b215, ci1_nI, nI_add]
        exact m_brid_l hn hI hx hll hv k0 k (j + 1) σ F fl hT hG H (R.weak (fun v h c d => by
          rcases d with d | ⟨g, hg, d⟩
          · exact Or.inl d
          · by_cases y : g = j
            · subst y
              obtain ⟨to, a1, a2, -⟩ := d
              exact absurd a2 z
            · exact Or.inr ⟨g, by omega, d⟩)) hf hj (by omega)
    · have e : j = tG T := by omega
      subst e
      rw [if_pos (Int32.le_refl _)]
      refine ⟨σ, F, fl, ?_, H, R, hf, frM.rf⟩
      cases fl <;> rfl
theorem m_goOn {T : aT} {L : aL} {ll : Nat → Nat} {n x : Nat} {F0 : Nat → Nat} {G : aG} {σ : bS} (hn : 20 ≤ n) (hI : InvT T L) (hx : x < 96) (hxb : x / 16 < tB T) (hll : ∀ g, g < tG T → G 3 g = lI (ll g) ∧ ll g ≤ tB T) (hv : ∀ g, g < tG T → (x % 16).testBit g = true → ¬ ll g = 0) (k0 : ∀ a, a < 96 → F0 a ≤ 1000000) (hT : MTx T L σ) (hG : MG T 0 G σ) (H : FS F0 σ) : ∃ σ' F' fl, m_goesOn n (nI x) σ = some (flI fl, σ') ∧ FS F' σ' ∧ Rlx T ll x 1000 F0 F' ∧ Fl F0 F' fl ∧ fr33 σ σ' := by
  have hB := hI.1
  have hGG := hI.2.2.1
  obtain ⟨σ1, F1', fl1, a1, a2, a3, a4, a5⟩ := m_paths_l (n := n) (ll := ll) hn hI hx hxb k0 n 0 σ F0 false hT H ⟨fun v hv => Nat.le_refl _, fun v hv => Or.inl rfl, fun v h c ⟨to, a, _⟩ => by omega⟩ ⟨fun _ a _ => rfl, fun u => by cases u⟩ (by omega) (by omega)
  obtain ⟨σ2, F2', fl2, b1, b2, b3, b4, b5⟩ := m_brid_l (n := n) (ll := ll) hn hI hx hll hv k0 n 0 σ1 F1' fl1 (hT.of (fun a x y => a5.2.1 a (by omega))) (by unfold MG; rw [a5.2.1 29 (by decide)]; exact hG) a2 (a3.weak (fun v h c d => by
    rcases d with d | ⟨g, hg, -⟩
    · exact d
    · omega)) a4 (by omega) (by omega)
  refine ⟨σ2, F2', fl2, ?_, b2, ⟨b3.1, b3.2.1, fun v h c e => ?_⟩, b4, a5.trans b5⟩
  · unfold m_goesOn
    rw [if_neg (show ¬ cb_16 = 0 by decide), if_neg (show ¬ cb_16 = 0 by decide), cb_16_n, nI_div (by omega) (by decide) (by decide), brem_n (by omega) (by decide) (by decide)]
    rw [show m_goesOn_b16 n n (nI x) (nI (x / 16)) (nI (x % 16)) ci_0 ci_0 σ = _ from a1]
    exact b1
  · have hv' := (e.bd hI).2.2.2.1
    refine b3.2.2 v h c ?_ hv'
    rcases e with e | ⟨g, to, q1, q2, q3, q4, q5, q6, q7⟩
    · exact Or.inl e
    · exact Or.inr ⟨g, q1, to, q2, q3, q4, q5, q6, q7⟩
/-- what holds in every round -/
def MI (T : aT) (ll : Nat → Nat) (s0 : Nat) (F : Nat → Nat) : Prop := F s0 = 0 ∧ (∀ a, a < 96 → F a ≤ 1000000) ∧ ∀ a, a < 96 → F a < 1000000 → a / 16 < tB T ∧ (∀ g, g < tG T → (a % 16).testBit g = true → ¬ ll g = 0) ∧ ∃ k H C, Wk T ll s0 k a H C ∧ F a = 1000 * H + C
theorem MI.step {T : aT} {L : aL} {ll : Nat → Nat} {s0 x : Nat} {F F' : Nat → Nat} (hI : InvT T L) (h0 : s0 < 96) (D : MI T ll s0 F) (hx : x < 96) (fx : F x < 1000000) (R : Rlx T ll x 1000 F F') : MI T ll s0 F' := by
  obtain ⟨d1, d2, d3⟩ := D
  have hGG := hI.2.2.1
  refine ⟨by have := R.1 s0 h0; omega, fun a ha => by have := R.1 a ha; have := d2 a ha; omega, fun a ha fa => ?_⟩
  rcases R.2.1 a ha with e | ⟨h, c, e, q⟩
  · rw [e] at fa ⊢
    exact d3 a ha fa
  · obtain ⟨b1, b2, k, H, C, b3, b4⟩ := d3 x hx fx
    refine ⟨(e.bd hI).2.2.2.2, fun g hg bit => ?_, k + 1, H + h, C + c, ⟨x, h, c, H, C, b3, e, rfl, rfl⟩, ?_⟩
    · rcases e with ⟨to, -, -, e1, -⟩ | ⟨g', to, q1, q2, q3, q4, q5, -⟩
      · rw [e1, show (16 * to + x % 16) % 16 = x % 16 by omega] at bit
        exact b2 g hg bit
      · have o16 := or16 (s := x % 16) (g := g') (by omega) (by omega)
        rw [q5, show (16 * to + (x % 16 ||| 2 ^ g')) % 16 = (x % 16 ||| 2 ^ g') by omega, Nat.testBit_or, Nat.testBit_two_pow] at bit
        by_cases z : g' = g
        · subst z
          rcases q4 with ⟨q4, -⟩ | ⟨-, q4⟩
          · omega
          · exact q4
        · rw [decide_eq_false z, Bool.or_false] at bit
          exact b2 g hg bit
    · rw [q, b4, Nat.mul_add]
      omega
theorem m_pass_l {T : aT} {L : aL} {ll : Nat → Nat} {n s0 : Nat} {F0 : Nat → Nat} {G : aG} {r35 : Int32 → bS → Option bS} {σ0 : bS} (hn : 20 ≤ n) (hI : InvT T L) (h0 : s0 < 96) (hll : ∀ g, g < tG T → G 3 g = lI (ll g) ∧ ll g ≤ tB T) : ∀ (k j : Nat) (σ : bS) (F : Nat → Nat) (fl : Bool), MTx T L σ → MG T 0 G σ → FS F σ → MI T ll s0 F → Fl F0 F fl → (fl = false → ∀ u, u < j → F u < 1000000 → ∀ v h c, Ed T ll u v h c → F v ≤ F u + 1000 * h + c) → fr33 σ0 σ → j ≤ 96 → 96 < j + k → ∃ σ' F' fl', m_laysFar_b43 n r35 k (flI fl) (nI j) σ = r35 (flI fl') σ' ∧ FS F' σ' ∧ MI T ll s0 F' ∧ Fl F0 F' fl' ∧ (fl' = false → ∀ u, u < 96 → F' u < 1000000 → ∀ v h c, Ed T ll u v h c → F' v ≤ F' u + 1000 * h + c) ∧ fr33 σ0 σ'
  | 0, j, σ, F, fl, hT, hG, H, D, hf, cl, f, h1, h2 => by omega
  | k + 1, j, σ, F, fl, hT, hG, H, D, hf, cl, f, h1, h2 => by
    rw [m_laysFar_b43, cb_96_n]
    by_cases hj : j < 96
    · have fj := D.2.1 j hj
      have e33 : sA σ 33 (nI j) = nI (F j) := (sA_n _ _ (by omega)).trans (H j hj)
      rw [if_neg (nI_ge hj (by omega)), bin_nI hj (by decide), e33]
      by_cases z : F j < 1000000
      · obtain ⟨b1, b2, -⟩ := D.2.2 j hj z
        obtain ⟨σ1, F1', fl1, c1, c2, c3, c4, c5⟩ := m_goOn (n := n) hn hI hj b1 hll b2 D.2.1 hT hG H
        have D1 := D.step hI h0 hj z c3
        have f1 : Fl F0 F1' (fl || fl1) := by
          refine ⟨fun u a ha => ?_, fun u => ?_⟩
          · have u1 : fl = false := by
              cases fl
              · rfl
              · cases u
            have u2 : fl1 = false := by
              cases fl1
              · rfl
              · rw [u1] at u
                cases u
            rw [c4.1 u2 a ha, hf.1 u1 a ha]
          · have le1 : sm F1' 96 ≤ sm F 96 := by
              cases fl1
              · rw [sm_congr 96 (c4.1 rfl)]
                exact Nat.le_refl _
              · have := c4.2 rfl
                omega
            cases fl
            · have u1 : fl1 = true := u
              have := c4.2 u1
              rw [sm_congr 96 (hf.1 rfl)] at this
              exact this
            · have := hf.2 rfl
              omega
        have key : (if flI fl1 = 0 then (fun y => m_laysFar_b71 n r35 (m_laysFar_b43 n r35 k) y (nI j) σ1) (flI fl) else (fun y => m_laysFar_b71 n r35 (m_laysFar_b43 n r35 k) y (nI j) σ1) ci_1) = m_laysFar_b43 n r35 k (flI (fl || fl1)) (nI (j + 1)) σ1 := by
          cases fl1
          · rw [show flI false = 0 from rfl, if_pos rfl, Bool.or_false]
            show m_laysFar_b71 n r35 (m_laysFar_b43 n r35 k) (flI fl) (nI j) σ1 = _
            rw [m_laysFar_b71, ci1_nI, nI_add]
          · rw [show flI true = 1 from rfl, if_neg one_ne, Bool.or_true]
            show m_laysFar_b71 n r35 (m_laysFar_b43 n r35 k) ci_1 (nI j) σ1 = _
            rw [m_laysFar_b71, ci1_nI, nI_add]
            rfl
        rw [if_neg (show ¬ (1000000 : Int32) ≤ nI (F j) from fun u => by
          have u : nI 1000000 ≤ nI (F j) := u
          have := (nI_leI (by omega) (by omega)).mp u
          omega), c1, ob_def]
        show ∃ σ' F' fl', (if flI fl1 = 0 then (fun y => m_laysFar_b71 n r35 (m_laysFar_b43 n r35 k) y (nI j) σ1) (flI fl) else (fun y => m_laysFar_b71 n r35 (m_laysFar_b43 n r35 k) y (nI j) σ1) ci_1) = _ ∧ _
        rw [key]
        exact m_pass_l hn hI h0 hll k (j + 1) σ1 F1' (fl || fl1) (hT.of (fun a x y => c5.2.1 a (by omega))) (by unfold MG; rw [c5.2.1 29 (by decide)]; exact hG) c2 D1 f1 (fun u w hw fw v h c e => by
          have u1 : fl = false := by
            cases fl
            · rfl
            · cases u
          have u2 : fl1 = false := by
            cases fl1
            · rfl
            · rw [u1] at u
              cases u
          have hv := (e.bd hI).2.2.2.1
          rw [c4.1 u2 w (by omega)] at fw ⊢
          by_cases t : w = j
          · subst t
            exact c3.2.2 v h c e
          · rw [c4.1 u2 v hv]
            exact cl u1 w (by omega) fw v h c e) (f.trans c5) (by omega) (by omega)
      · rw [if_pos (show (1000000 : Int32) ≤ nI (F j) from (nI_leI (a := 1000000) (by omega) (by omega)).mpr (by omega)), m_laysFar_b71, ci1_nI, nI_add]
        exact m_pass_l hn hI h0 hll k (j + 1) σ F fl hT hG H D hf (fun u w hw fw => by
          by_cases t : w = j
          · subst t
            exact absurd fw z
          · exact cl u w (by omega) fw) f (by omega) (by omega)
    · have e : j = 96 := by omega
      subst e
      rw [if_pos (Int32.le_refl _)]
      exact ⟨σ, F, fl, rfl, H, D, hf, cl, f⟩
theorem m_round_l {T : aT} {L : aL} {ll : Nat → Nat} {n s0 : Nat} {G : aG} {σ0 : bS} (hn : 100 ≤ n) (hI : InvT T L) (h0 : s0 < 96) (hll : ∀ g, g < tG T → G 3 g = lI (ll g) ∧ ll g ≤ tB T) : ∀ (k : Nat) (σ : bS) (F : Nat → Nat), MTx T L σ → MG T 0 G σ → FS F σ → MI T ll s0 F → fr33 σ0 σ → ∀ M, sm F 96 ≤ M → M + 1 < k → ∃ σ' F', m_laysFar_b35 n k ci_1 σ = some σ' ∧ FS F' σ' ∧ KM T ll s0 F' ∧ fr33 σ0 σ' := by
  intro k
  induction k with
  | zero =>
    intro σ F hT hG H D f M hM h1
    exact absurd h1 (Nat.not_lt_zero _)
  | succ k ih =>
    intro σ F hT hG H D f M hM h1
    obtain ⟨σ1, F1', fl, c1, c2, c3, c4, c5, c6⟩ := m_pass_l (n := n) (F0 := F) (r35 := m_laysFar_b35 n k) (σ0 := σ0) (by omega) hI h0 hll n 0 σ F false hT hG H D ⟨fun _ a _ => rfl, fun u => by cases u⟩ (fun _ u hu => by omega) f (by omega) (by omega)
    rw [m_laysFar_b35, if_neg (show ¬ ci_1 = 0 by decide), show m_laysFar_b43 n (m_laysFar_b35 n k) n ci_0 ci_0 σ = _ from c1]
    cases fl
    · rw [show flI false = 0 from rfl, show k = (k - 1) + 1 by omega, m_laysFar_b35, if_pos rfl]
      refine ⟨σ1, F1', rfl, c2, ⟨c3.1, c3.2.1, fun a ha fa => ?_, fun u v h c hu fu e => c5 rfl u hu fu v h c e⟩, c6⟩
      obtain ⟨-, -, q⟩ := c3.2.2 a ha fa
      exact q
    · have lt := c4.2 rfl
      have hT1 : MTx T L σ1 := hT.of (fun a x y => by
        have q1 := c6.2.1 a (by omega)
        have q2 := f.2.1 a (by omega)
        rw [q1, q2])
      have hG1 : MG T 0 G σ1 := by
        have q1 := c6.2.1 29 (by decide)
        have q2 := f.2.1 29 (by decide)
        unfold MG
        rw [q1, ← q2]
        exact hG
      exact ih σ1 F1' hT1 hG1 c2 c3 c6 (M - 1) (by omega) (by omega)
theorem m_far0_l {n bk : Nat} (hb : bk < 6) : ∀ (k j : Nat) (σ : bS), (∀ a, a < j → σ.2.1 33 a = (1000000 : Int32)) → j ≤ 96 → 96 < j + k → ∃ σ', m_laysFar_b2 n k (nI bk) (nI j) σ = m_laysFar_b35 n n ci_1 σ' ∧ FS (fun a => if a = 16 * bk then 0 else 1000000) σ' ∧ fr33 σ σ'
  | 0, j, σ, a, h1, h2 => by omega
  | k + 1, j, σ, a, h1, h2 => by
    rw [m_laysFar_b2, cb_96_n]
    by_cases hj : j < 96
    · rw [if_neg (nI_ge hj (by omega)), bin_nI hj (by decide), ci1_nI, nI_add]
      obtain ⟨σ2, c1, c2, c3⟩ := m_far0_l (n := n) hb k (j + 1) (uA σ 33 (nI j) (1000000 : Int32)) (fun x hx => by
        rw [uA_2, nI_clamp (by omega)]
        by_cases z : x = j
        · rw [if_pos ⟨rfl, z⟩]
        · rw [if_neg (fun u => z u.2)]
          exact a x (by omega)) hj (by omega)
      exact ⟨σ2, c1, c2, frM.trans (frM.uA (PI := fun _ => False) (PA := fun a => a = 33) rfl) c3⟩
    · have e : j = 96 := by omega
      subst e
      rw [if_pos (Int32.le_refl _), cb_16_n, nI_mul, bin_nI (by omega) (by decide)]
      refine ⟨_, rfl, fun x hx => ?_, frM.uA rfl⟩
      rw [uA_2, nI_clamp (by omega)]
      show _ = nI (if x = 16 * bk then 0 else 1000000)
      by_cases z : x = 16 * bk
      · rw [if_pos ⟨rfl, z⟩, if_pos z]
        rfl
      · rw [if_neg (fun u => z u.2), if_neg z, a x hx]
        rfl
theorem m_laysF {T : aT} {L : aL} {ll : Nat → Nat} {n bk : Nat} {G : aG} {σ : bS} (hn : 99000000 ≤ n) (hI : InvT T L) (hb : bk < tB T) (hll : ∀ g, g < tG T → G 3 g = lI (ll g) ∧ ll g ≤ tB T) (hT : MTx T L σ) (hG : MG T 0 G σ) : ∃ σ' F', m_laysFar n (nI bk) σ = some σ' ∧ FS F' σ' ∧ KM T ll (16 * bk) F' ∧ fr33 σ σ' := by
  have hB := hI.1
  obtain ⟨σ1, a1, a2, a3⟩ := m_far0_l (n := n) (bk := bk) (by omega) n 0 σ (fun a ha => by omega) (by omega) (by omega)
  have bd : sm (fun a => if a = 16 * bk then 0 else 1000000) 96 ≤ 1000000 * 96 := sm_le 96 (fun k _ => by
    show (if k = 16 * bk then 0 else 1000000) ≤ 1000000
    split <;> omega)
  obtain ⟨σ2, F2', c1, c2, c3, c4⟩ := m_round_l (n := n) (ll := ll) (s0 := 16 * bk) (σ0 := σ) (by omega) hI (by omega) hll n σ1 (fun a => if a = 16 * bk then 0 else 1000000) (hT.of (fun a x y => a3.2.1 a (by omega))) (by unfold MG; rw [a3.2.1 29 (by decide)]; exact hG) a2 ⟨if_pos rfl, fun a ha => by
    show (if a = 16 * bk then 0 else 1000000) ≤ 1000000
    split <;> omega, fun a ha fa => by
    have fa : (if a = 16 * bk then 0 else 1000000) < 1000000 := fa
    by_cases z : a = 16 * bk
    · refine ⟨by omega, fun g hg bit => ?_, 0, 0, 0, ⟨z, rfl, rfl⟩, if_pos z⟩
      rw [z, show 16 * bk % 16 = 0 by omega, Nat.zero_testBit] at bit
      cases bit
    · rw [if_neg z] at fa
      omega⟩ a3 (1000000 * 96) bd (by omega)
  exact ⟨σ2, F2', by unfold m_laysFar; rw [show m_laysFar_b2 n n (nI bk) ci_0 σ = _ from a1, c1], c2, c3, c4⟩
theorem m_nearest_l {n bk : Nat} {F : Nat → Nat} {σ : bS} (hb : bk < 6) (k0 : ∀ a, a < 96 → F a ≤ 1000000) (H : FS F σ) : ∀ (k j : Nat), j ≤ 16 → 16 < j + k → m_nearest_b6 n k (nI bk) (nI (lsS F 1000000 bk j)) (nI j) σ = some (nI (lsS F 1000000 bk 16), σ)
  | 0, j, h1, h2 => by omega
  | k + 1, j, h1, h2 => by
    rw [m_nearest_b6, cb_16_n]
    by_cases hj : j < 16
    · have kj := k0 (16 * bk + j) (by omega)
      have lf := lsS_far F 1000000 bk j
      have e33 : sA σ 33 (nI (16 * bk + j)) = nI (F (16 * bk + j)) := (sA_n _ _ (by omega)).trans (H _ (by omega))
      have ih := m_nearest_l (n := n) hb k0 H k (j + 1) hj (by omega)
      rw [lsS] at ih
      rw [if_neg (nI_ge hj (by omega)), nI_mul, nI_add, bin_nI (by omega) (by decide), e33]
      by_cases z : F (16 * bk + j) < lsS F 1000000 bk j
      · rw [if_pos z] at ih
        rw [if_neg (fun u => by have := (nI_leI (by omega) (by omega)).mp u; omega), bin_nI (by omega) (by decide), m_nearest_b39, ci1_nI, nI_add]
        exact ih
      · rw [if_neg z] at ih
        rw [if_pos ((nI_leI (by omega) (by omega)).mpr (by omega)), m_nearest_b39, ci1_nI, nI_add]
        exact ih
    · have e : j = 16 := by omega
      subst e
      rw [if_pos (Int32.le_refl _)]
theorem m_nearest_eq {n bk : Nat} {F : Nat → Nat} {σ : bS} (hn : 20 ≤ n) (hb : bk < 6) (k0 : ∀ a, a < 96 → F a ≤ 1000000) (H : FS F σ) : m_nearest n (nI bk) σ = some (nI (lsS F 1000000 bk 16), σ) := m_nearest_l hb k0 H n 0 (by omega) (by omega)
