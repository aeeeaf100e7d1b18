/-! the first good row is found man by man -/
def gdL (T : aT) (L : aL) (G : aG) (h s l0 N : Nat) (Y : List Nat) : Prop := ∃ ds : List Bool, ds.length = cS s ∧ ds.count true = N ∧ okP (rQ (tHome T) (wN T L G h) (Y.zip ds) 0 0 l0 false) = true
theorem gdL_gp {T : aT} {L : aL} {G : aG} {h s l0 N : Nat} {x : List Nat} (hx : x ∈ pL (cS s) (List.range (cS s))) : gdL T L G h s l0 N (x.map (eI s)) ↔ ∃ p, p < 2 ^ cS s ∧ gp T L G h s l0 N x p = true := by
  have c7 := cS_7 (s := s)
  constructor
  · rintro ⟨ds, h1, h2, h3⟩
    refine ⟨bP ds, by rw [← h1]; exact bP_lt ds, ?_⟩
    unfold gp
    rw [gdR_list hx, hd_bP h1, h3, decide_eq_true (show pc (bP ds) = N by rw [bP_pc ds (by omega)]; omega)]
    rfl
  · rintro ⟨p, hp, g⟩
    unfold gp at g
    obtain ⟨g1, g2⟩ := Bool.and_eq_true_iff.mp g
    have g1 := of_decide_eq_true g1
    rw [gdR_list hx] at g2
    refine ⟨(List.range (cS s)).map (hdP (cS s) p), by rw [List.length_map, List.length_range], ?_, g2⟩
    rw [← bP_pc _ (by rw [List.length_map, List.length_range]; exact c7), bP_hd hp]
    exact g1
noncomputable def thenQ (ho : Nat → Nat) (W : Nat → Nat → Nat → Nat) (b : List (Nat × Bool)) (X h : Nat) (o : Option (Nat × Bool)) : Option (Nat × Bool) := match o with
  | none => none
  | some (la, ab) => rQ ho W b X h la ab
theorem rQ_zL_app {ho : Nat → Nat} {W : Nat → Nat → Nat → Nat} {R : Nat → Nat} {hd : Nat → Bool} {l0 c : Nat} (b : List (Nat × Bool)) (hR : ∀ q, q < c → R q < 7) (hD : ∀ q r, q < r → r < c → ¬ R q = R r) : ∀ (k p : Nat), p + k = c → ∀ la ab, rP ho W R hd l0 p = some (la, ab) → rQ ho W (zL R hd k p ++ b) (xs R p) (nh hd p) la ab = thenQ ho W b (xs R c) (nh hd c) (rP ho W R hd l0 c)
  | 0, p, h, la, ab, e => by
    have e1 : p = c := by omega
    subst e1
    rw [e]
    rfl
  | k + 1, p, h, la, ab, e => by
    have st := rP_tr (fun q hq => hR q (by omega)) e
    have ep : pc (xs R p) = p := pc_xs p (fun q hq => hR q (by omega)) (fun q r hq hr => hD q r hq (by omega))
    rw [zL, List.cons_append, rQ, ep]
    cases et : tr ho W (xs R p) la ab (R p) (hd p) (p + nh hd p) with
    | none =>
      rw [et] at st
      rw [(rQ_rP hR hD k (p + 1) (by omega)).1 st]
      rfl
    | some o =>
      obtain ⟨la', ab'⟩ := o
      rw [et] at st
      have := rQ_zL_app b hR hD k (p + 1) (by omega) la' ab' st
      rw [nh] at this
      rw [← this, xs]
      show rQ ho W (zL R hd k (p + 1) ++ b) (xs R p ||| 2 ^ R p) (if hd p = true then nh hd p + 1 else nh hd p) la' ab' = _
      by_cases z : hd p = true
      · rw [if_pos z, if_pos z]
      · rw [if_neg z, if_neg z]
        rfl
theorem zL_gen {R : Nat → Nat} {hd : Nat → Bool} : ∀ (k p : Nat), zL R hd k p = ((List.range k).map (fun i => R (p + i))).zip ((List.range k).map (fun i => hd (p + i)))
  | 0, p => rfl
  | k + 1, p => by
    rw [zL, zL_gen k (p + 1), List.range_succ_eq_map, List.map_cons, List.map_cons, List.map_map, List.map_map, List.zip_cons_cons]
    congr 1
    congr 1
    · refine List.map_congr_left (fun i _ => ?_)
      show R (p + 1 + i) = R (p + (i + 1))
      congr 1
      omega
    · refine List.map_congr_left (fun i _ => ?_)
      show hd (p + 1 + i) = hd (p + (i + 1))
      congr 1
      omega
theorem zL_0 {R : Nat → Nat} {hd : Nat → Bool} (k : Nat) : zL R hd k 0 = ((List.range k).map R).zip ((List.range k).map hd) := by
  rw [zL_gen]
  congr 1
  · refine List.map_congr_left (fun i _ => ?_)
    rw [Nat.zero_add]
  · refine List.map_congr_left (fun i _ => ?_)
    rw [Nat.zero_add]
theorem nh_cnt {f ch : Nat} (hf : f ≤ 7) (h : ch < 2 ^ f) : ((List.range f).map (hdP f ch)).count true = nh (hdP f ch) f := by
  rw [← bP_pc _ (by rw [List.length_map, List.length_range]; exact hf), bP_hd h, nh_pc hf h]
theorem LD_iff {T : aT} {L : aL} {G : aG} {h s l0 N f : Nat} {r : Nat → Nat} (hs : s < 128) (hf : f ≤ pc s) (hr : ∀ q, q < f → r q < 7) (hD : ∀ q q', q < q' → q' < f → ¬ r q = r q') : (∃ ch, ch < 2 ^ f ∧ LD T L G h s l0 N r f ch) ↔ ∃ t, t ∈ pL (pc s - f) (rm s (xs r f)) ∧ gdL T L G h s l0 N ((List.range f).map r ++ t) := by
  have ec : pc s = cS s := (rowL_pc (z := 0) hs).symm
  have p7 := pc_le (s := s)
  have go : ∀ ch t (ds : List Bool), ch < 2 ^ f → rQ (tHome T) (wN T L G h) (((List.range f).map r ++ t).zip ((List.range f).map (hdP f ch) ++ ds)) 0 0 l0 false = thenQ (tHome T) (wN T L G h) (t.zip ds) (xs r f) (nh (hdP f ch) f) (rP (tHome T) (wN T L G h) r (hdP f ch) l0 f) := fun ch t ds hch => by
    rw [List.zip_append (by rw [List.length_map, List.length_map]), ← zL_0]
    exact rQ_zL_app (t.zip ds) hr hD f 0 (by omega) l0 false rfl
  constructor
  · rintro ⟨ch, hch, la, ab, e, t, ht, ds, d1, d2, d3⟩
    refine ⟨t, ht, (List.range f).map (hdP f ch) ++ ds, ?_, ?_, ?_⟩
    · rw [List.length_append, List.length_map, List.length_range, d1]
      omega
    · rw [List.count_append, nh_cnt (by omega) hch]
      exact d2
    · rw [go ch t ds hch, e]
      exact d3
  · rintro ⟨t, ht, ds, d1, d2, d3⟩
    have lt : (ds.take f).length = f := by rw [List.length_take]; omega
    have hb : bP (ds.take f) < 2 ^ f := by
      have := bP_lt (ds.take f)
      rw [lt] at this
      exact this
    have e1 : (List.range f).map (hdP f (bP (ds.take f))) = ds.take f := hd_bP lt
    have sp := go (bP (ds.take f)) t (ds.drop f) hb
    rw [e1, List.take_append_drop] at sp
    rw [sp] at d3
    refine ⟨bP (ds.take f), hb, ?_⟩
    unfold LD
    cases et : rP (tHome T) (wN T L G h) r (hdP f (bP (ds.take f))) l0 f with
    | none =>
      rw [et] at d3
      cases d3
    | some o =>
      obtain ⟨la, ab⟩ := o
      rw [et] at d3
      refine ⟨la, ab, rfl, t, ht, ds.drop f, ?_, ?_, d3⟩
      · rw [List.length_drop]
        omega
      · rw [← nh_cnt (by omega) hb, e1, ← List.count_append, List.take_append_drop]
        exact d2
/-! first by decision -/
noncomputable def pB (P : List Nat → Prop) (l : List Nat) : Bool := @decide (P l) (Classical.propDecidable (P l))
theorem pB_t {P : List Nat → Prop} {l : List Nat} : pB P l = true ↔ P l := @decide_eq_true_iff (P l) (Classical.propDecidable (P l))
theorem rm_lt (s X : Nat) : (rm s X).Pairwise (fun a b => a < b) := List.Pairwise.filter _ List.pairwise_lt_range
theorem lex_step {P : List Nat → Prop} {s X k m : Nat} {t : List Nat} (H : (pL (k + 1) (rm s X)).find? (pB P) = some (m :: t)) : m ∈ rm s X ∧ (pL k (rm s (X ||| 2 ^ m))).find? (pB (fun l => P (m :: l))) = some t ∧ ∀ j, j ∈ rm s X → j < m → ∀ l, l ∈ pL k (rm s (X ||| 2 ^ j)) → ¬ P (j :: l) := by
  rw [pL, List.find?_flatMap] at H
  obtain ⟨l1, a, l2, e, h1, h2⟩ := List.findSome?_eq_some_iff.mp H
  rw [List.find?_map, rm_erase] at h1
  obtain ⟨t', q1, q2⟩ := Option.map_eq_some_iff.mp h1
  have qa : a = m := (List.cons.inj q2).1
  have qt : t' = t := (List.cons.inj q2).2
  subst qa qt
  refine ⟨by rw [e]; exact List.mem_append_right _ List.mem_cons_self, q1, fun j hj hjm l hl pj => ?_⟩
  have so := rm_lt s X
  rw [e] at so hj
  rcases List.mem_append.mp hj with z | z
  · have no := h2 j z
    rw [List.find?_map, rm_erase] at no
    have no := Option.map_eq_none_iff.mp no
    have := List.find?_eq_none.mp no l hl
    exact this (pB_t.mpr pj)
  · rcases List.mem_cons.mp z with rfl | z
    · omega
    · have := (List.pairwise_cons.mp (List.pairwise_append.mp so).2.1).1 j z
      omega
theorem xs_congr {r r' : Nat → Nat} : ∀ p, (∀ q, q < p → r q = r' q) → xs r p = xs r' p
  | 0, _ => rfl
  | p + 1, h => by rw [xs, xs, xs_congr p (fun q hq => h q (by omega)), h p (by omega)]
