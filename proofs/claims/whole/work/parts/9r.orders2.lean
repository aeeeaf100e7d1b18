/-! ORDERS: both sides -/
/-- the set by numbers, made one to one everywhere -/
def eI (s q : Nat) : Nat := if q < cS s then eS s q else q + 7
theorem eI_inj (s : Nat) : ∀ a b, eI s a = eI s b → a = b := fun a b h => by
  unfold eI at h
  by_cases z : a < cS s
  · rw [if_pos z] at h
    have a7 := (eS_7 z).1
    by_cases y : b < cS s
    · rw [if_pos y] at h
      have m1 := eS_mono s a b z y
      have m2 := eS_mono s b a y z
      omega
    · rw [if_neg y] at h
      omega
  · rw [if_neg z] at h
    by_cases y : b < cS s
    · rw [if_pos y] at h
      have b7 := (eS_7 y).1
      omega
    · rw [if_neg y] at h
      omega
theorem range_eI (s : Nat) : (List.range (cS s)).map (eI s) = rowL 7 s 0 := by
  apply List.ext_getElem
  · rw [List.length_map, List.length_range]
  · intro i h1 h2
    rw [List.getElem_map, List.getElem_range]
    unfold eI
    rw [if_pos h2]
    exact getD_get h2
theorem pL_men (s : Nat) : pL (cS s) (rm s 0) = (pL (cS s) (List.range (cS s))).map (List.map (eI s)) := by
  rw [rm_0, ← range_eI, pL_map (eI_inj s)]
theorem zL_list {s : Nat} {hd : Nat → Bool} (l : List Nat) (hl : ∀ x, x ∈ l → x < cS s) : ∀ (k p : Nat), p + k = l.length → zL (fun q => eS s (l.getD q 0)) hd k p = ((l.drop p).map (eI s)).zip ((List.range k).map (fun i => hd (p + i)))
  | 0, p, h => by
    rw [zL, List.range_zero, List.map_nil, List.zip_nil_right]
  | k + 1, p, h => by
    have hp : p < l.length := by omega
    rw [zL, zL_list l hl k (p + 1) (by omega), List.drop_eq_getElem_cons hp, List.map_cons, List.range_succ_eq_map, List.map_cons, List.map_map, List.zip_cons_cons]
    congr 1
    · rw [getD_get hp]
      unfold eI
      rw [if_pos (hl _ (List.getElem_mem hp))]
      rfl
    · congr 1
      refine List.map_congr_left (fun i _ => ?_)
      show hd (p + 1 + i) = hd (p + (i + 1))
      congr 1
      omega
theorem zip_false : ∀ (l : List Nat) (k : Nat), l.length = k → l.zip ((List.range k).map (fun _ => false)) = l.map (fun m => (m, false))
  | [], k, h => by
    rw [List.zip_nil_left, List.map_nil]
  | a :: l, 0, h => by cases h
  | a :: l, k + 1, h => by
    rw [List.range_succ_eq_map, List.map_cons, List.map_map, List.zip_cons_cons, List.map_cons]
    congr 1
    exact zip_false l k (Nat.succ.inj h)
/-- an order of places is good just when that of the men is -/
theorem gdR_list {T : aT} {L : aL} {G : aG} {h s l0 : Nat} {hd : Nat → Bool} {l : List Nat} (hl : l ∈ pL (cS s) (List.range (cS s))) : gdR T L G h s l0 hd l = okP (rQ (tHome T) (wN T L G h) ((l.map (eI s)).zip ((List.range (cS s)).map hd)) 0 0 l0 false) := by
  obtain ⟨a, d⟩ := pL_at hl
  have len := pL_len _ _ _ hl
  unfold gdR
  rw [ok_rQ (fun q hq => (eS_7 (a q hq)).1) (fun q r hq hr e => by
    have m1 := eS_mono s _ _ (a q (by omega)) (a r hr)
    have m2 := eS_mono s _ _ (a r hr) (a q (by omega))
    have e : eS s (l.getD q 0) = eS s (l.getD r 0) := e
    exact d q r hq hr (by omega)), zL_list l (fun x hx => List.mem_range.mp ((pL_mem _ _ _ List.nodup_range hl).2 x hx)) (cS s) 0 (by omega), List.drop_zero]
  congr 3
  refine List.map_congr_left (fun i _ => ?_)
  show hd (0 + i) = hd i
  rw [Nat.zero_add]
theorem count_orders {T : aT} {L : aL} {G : aG} {h s l0 : Nat} (hs : s < 128) : (pL (cS s) (List.range (cS s))).countP (gdR T L G h s l0 (fun _ => false)) = cV (tHome T) (wN T L G h) s (pc s) 0 l0 false := by
  unfold cV
  rw [← rowL_pc (z := 0) hs]
  show _ = (pL (cS s) (rm s 0)).countP _
  rw [pL_men, List.countP_map]
  apply List.countP_congr
  intro l hl
  rw [gdR_list hl, zip_false _ _ (by rw [List.length_map]; exact pL_len _ _ _ hl)]
  rfl
theorem sim_orders {i : Nat} {σC σM : bS} (hi : i ≤ 3072) (h : Rel i σC σM) (x y : Int32) : Sim_orders (Rel (i + 6)) x y σC σM := by
  have hrel := h
  obtain ⟨T, L, G, H⟩ := h
  have H : RelB i T L G σC σM := H
  have hM := H.1.2.2.2.1
  have h7 : (2 : Nat) ^ tM T ≤ 2 ^ 7 := Nat.pow_le_pow_right (by decide) hM
  obtain ⟨hr, r1, r2, r3⟩ := Rel.hour H.2.2.2.2.2.1 hi
  rcases row_cases (n := 6000) (n1 := 6000) (by omega) (by omega) H x y with ⟨a1, a2⟩ | ⟨b, s, hb, h0, hs, rfl, rfl, a2, ⟨a3, a4⟩ | ⟨a3, a4, a5⟩⟩
  · refine ⟨6000, 6000, -1, σC, σM, ?_, ?_, hrel.mono (by omega)⟩
    · unfold cTop_orders
      rw [a1, ob_def, if_neg m1_ne]
    · unfold m_orders
      rw [a2, ob_def, if_pos rfl, cim1]
  · refine ⟨6000, 6000, -2, σC, uI σM 0 40 ci_0, ?_, ?_, hrel.of (by omega) frC.rf frQw⟩
    · unfold cTop_orders
      rw [a3, ob_def, if_neg m2_ne]
    · unfold m_orders
      rw [a2, ob_def, if_neg one_ne, a4, ob_def, if_pos rfl, m_orders_b31, cbm2]
  · have h3 : MTx T L (uI σM 0 40 ci_0) := H.2.2.1.of (fun _ _ _ => rfl)
    obtain ⟨l0, σ1, c1, c2, c3, c4, c5⟩ := c_prepE (n := 6000) (x := 1) (by omega) H.1 H.2.1 H.2.2.2.1 (H.2.2.2.2.2.1.2.1 b hb) hb hs (by omega) (by omega) r2
    obtain ⟨σ2, d1, d2⟩ := c_count (n := 6000) (by omega) H.1 h0 hs c4 c2
    obtain ⟨σ3, g1, g2, g3, g4⟩ := m_goodR (n := 6000) (l0 := l0) (σ := uI σM 0 40 ci_0) (by omega) H.1 (H.2.2.2.2.2.1.up hi) r2 (by omega) hb h0 hs a5 c2.2.2.2.2.1 c2.2.2.2.1 h3 H.2.2.2.2.1
    rw [count_orders (by omega)] at g1
    refine ⟨6000, 6000, nI (cV (tHome T) (wN T L G hr) s (pc s) 0 l0 false), σ2, σ3, ?_, ?_, hrel.of (by omega) ((c3.mono sc_59).trans (d2.mono (fun a z => by unfold scrC; omega))) (frQw.trans g4)⟩
    · unfold cTop_orders
      rw [a3, ob_def, if_pos rfl, show cRows_prepare 6000 (nI b) (nI s) ci_1 σC = some σ1 from c1, ob_def, d1, ob_def]
    · unfold m_orders
      rw [a2, ob_def, if_neg one_ne, a4, ob_def, if_neg one_ne, g1, ob_def, m_orders_b31]
