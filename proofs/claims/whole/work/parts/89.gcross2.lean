theorem g_cross_l {T : aT} {L : aL} {n b h s z l0 : Nat} {G : aG} {x1 : Int32} {σ0 : bS} (v : Bool) (pre : List Nat) (hn : 20 ≤ n) (hI : InvT T L) (hi : InvG T 5000 G) (hh : G 0 0 = nI h) (hx0 : h + 20 ≤ 170000) (hb : b < tG T) (hs : s < 128) (e00 : 0 ≤ G 3 b ↔ ¬ l0 = 0) (hW : ∀ m l t, s.testBit m = true → (l0 = 0 ∨ 1 ≤ l) → l ≤ tB T → t < 14 → t < pc s → σ0.2.1 60 ((7 * m + l) * 14 + t) = sWish T L G m (lI l) (h + t)) (hr : isRow T G b (rowL 7 s z).length (fun q => (rowL 7 s z).getD q 0)) (hpre : ∀ j, j ≤ 7 → ∃ r, rowL 7 s z = pre ++ fL s z v j ++ r) (hx : ∀ j, j < 7 → (((x1 >>> (nI j &&& 31)) &&& ci_1) = ci_1 ↔ fB s z v j = true)) : ∀ (k j : Nat) (σ : bS), CT T L σ → frC sc68 σ0 σ → GSt T b (pre ++ fL s z v j) (rwG T L b h (fun q => (rowL 7 s z).getD q 0) G (pre ++ fL s z v j).length) σ → j ≤ 7 → 7 < j + k → ∃ σ', cGame_crossAll_b9 n k x1 (rwG T L b h (fun q => (rowL 7 s z).getD q 0) G (pre ++ fL s z v j).length 3 b) (nI (pre ++ fL s z v j).length) (nI j) σ = some (rwG T L b h (fun q => (rowL 7 s z).getD q 0) G (pre ++ fL s z v 7).length 3 b, σ') ∧ GSt T b (pre ++ fL s z v 7) (rwG T L b h (fun q => (rowL 7 s z).getD q 0) G (pre ++ fL s z v 7).length) σ' ∧ frC sc68 σ0 σ' ∧ CT T L σ'
  | 0, j, σ, hT, f, hg, h1, h2 => by omega
  | k + 1, j, σ, hT, f, hg, h1, h2 => by
    have hGG := hI.2.2.1
    have hMM := hI.2.2.2.1
    have hBB := hI.1
    rw [cGame_crossAll_b9, cb7_nI]
    by_cases hj : j < 7
    · rw [if_neg (nI_ge hj (by omega))]
      cases e : fB s z v j
      · have el : fL s z v (j + 1) = fL s z v j := by rw [fL_S, e, if_neg (by decide), List.append_nil]
        rw [if_neg (fun q => by have := (hx j hj).mp q; rw [e] at this; cases this), cGame_crossAll_b91, show (nI j + ci_1 : Int32) = nI (j + 1) from nI_add j 1, ← el]
        exact g_cross_l v pre hn hI hi hh hx0 hb hs e00 hW hr hpre hx k (j + 1) σ hT f (by rw [el]; exact hg) hj (by omega)
      · have el : pre ++ fL s z v (j + 1) = (pre ++ fL s z v j) ++ [j] := by rw [fL_S, e, if_pos rfl, ← List.append_assoc]
        obtain ⟨rr, hrr⟩ := hpre (j + 1) hj
        rw [el] at hrr
        obtain ⟨l, hl⟩ : ∃ l, l = pre ++ fL s z v j := ⟨_, rfl⟩
        rw [← hl] at hg hrr el ⊢
        obtain ⟨R, hR⟩ : ∃ R : Nat → Nat, R = fun q => (rowL 7 s z).getD q 0 := ⟨_, rfl⟩
        rw [← hR] at hg hr ⊢
        have hlen : l.length < (rowL 7 s z).length := by
          rw [hrr, List.length_append, List.length_append]
          show l.length < l.length + 1 + rr.length
          omega
        have hc7 : (rowL 7 s z).length ≤ 7 := rowL_len (by omega)
        have Rp : R l.length = j := by
          rw [hR]
          show (rowL 7 s z).getD l.length 0 = j
          rw [hrr, getD_mid]
        have Rq : ∀ q, q < l.length → R q = l.getD q 0 := fun q hq => by
          rw [hR]
          show (rowL 7 s z).getD q 0 = _
          rw [hrr, List.append_assoc, getD_pre hq]
        have hrow := hr.1 l.length hlen
        rw [Rp] at hrow
        have nj : ¬ j ∈ l := fun q => by
          obtain ⟨q1, hq1, eq1⟩ := mem_getD q
          exact hr.2 q1 l.length hq1 hlen (by rw [Rp, Rq q1 hq1, eq1])
        obtain ⟨D, hD⟩ : ∃ D, D = rwG T L b h R G l.length := ⟨_, rfl⟩
        obtain ⟨a5, a6, a7, a8, a9⟩ := rwG_keep (L := L) (T := T) (h := h) (R := R) (G := G) (m := j) (show b < 2 ^ 31 by omega) hrow.2.2 l.length (fun q hq y => hr.2 q l.length hq hlen (by rw [Rp, y]))
        have ip := rwG_inv (h := h) (L := L) (R := R) hI hi hb l.length (fun q hq => (hr.1 q (by omega)).1) (by omega)
        rw [← hD] at a5 a6 a7 a8 a9 ip hg ⊢
        obtain ⟨l1, hl1, el1, e01⟩ := lI_of (show tB T < 2 ^ 31 by omega) (ip.2.1 b hb)
        obtain ⟨w, hw⟩ : ∃ w, w = sWish T L D j (D 3 b) (h + l.length) := ⟨_, rfl⟩
        have hww : orN (tB T) w := by rw [hw]; exact sWish_in hI hrow.1
        have eD : rwG T L b h R G (l.length + 1) = sStep T L D j b w (h + l.length) := by
          show sStep T L (rwG T L b h R G l.length) (R l.length) b (sWish T L (rwG T L b h R G l.length) (R l.length) (rwG T L b h R G l.length 3 b) (h + l.length)) (h + l.length) = _
          rw [Rp, ← hD, ← hw]
        have sj : s.testBit j = true := by
          unfold fB at e
          exact (Bool.and_eq_true_iff.mp e).1
        have hpc := rowL_pc (z := z) hs
        have wa : cRows_wishAt n (nI j) (D 3 b) (nI l.length) σ = some (w, σ) := by
          unfold cRows_wishAt
          rw [el1, cell_eq, ob_def, bin_nI (by omega) (by decide), sA_n _ _ (by omega), (f 60 (by decide)).2.1, hW j l1 l.length sj (by
            by_cases q : l0 = 0
            · exact Or.inl q
            · refine Or.inr ?_
              have y := rwG_la (T := T) (L := L) (h := h) (R := R) (e00.mpr q) l.length
              rw [← hD] at y
              have := e01.mp y
              omega) hl1 (by omega) (by omega), hw, el1]
          congr 2
          exact (sWish_congr a5 a7 a8 a9).symm
        rw [if_pos ((hx j hj).mpr e), wa, ob_def]
        have e4 : sI σ 68 4 = bitsOf (fun m => m ∈ l ∧ D 6 m = nI b) 7 := hg.1
        -- what comes behind
        have tail : ∀ σ2, CT T L σ2 → frC (fun a => a = 68) σ σ2 → σ2.1 68 4 = bitsOf (fun m => m ∈ l ++ [j] ∧ rwG T L b h R G (l.length + 1) 6 m = nI b) 7 → σ2.1 68 5 = bitsOf (fun m => m ∈ l ++ [j] ∧ rwG T L b h R G (l.length + 1) 5 m = nI (tHome T m)) 7 → ∃ σ', cGame_crossAll_b65 n (cGame_crossAll_b9 n k) x1 (D 3 b) (nI l.length) (nI j) w σ2 = some (rwG T L b h R G (pre ++ fL s z v 7).length 3 b, σ') ∧ GSt T b (pre ++ fL s z v 7) (rwG T L b h R G (pre ++ fL s z v 7).length) σ' ∧ frC sc68 σ0 σ' ∧ CT T L σ' := fun σ2 t1 t2 t3 t4 => by
          have key : cGame_crossAll_b65 n (cGame_crossAll_b9 n k) x1 (D 3 b) (nI l.length) (nI j) w σ2 = cGame_crossAll_b9 n k x1 (rwG T L b h R G (l ++ [j]).length 3 b) (nI (l ++ [j]).length) (nI (j + 1)) (uA σ2 70 (nI j) (nI l.length)) := by
            have e3 : rwG T L b h R G (l ++ [j]).length 3 b = if w < 0 then D 3 b else w := by
              rw [List.length_append]
              show rwG T L b h R G (l.length + 1) 3 b = _
              rw [eD]
              show (if b = b then (if w < 0 then D 3 b else w) else D 3 b) = _
              rw [if_pos rfl]
            have e5 : (l ++ [j]).length = l.length + 1 := by rw [List.length_append]; rfl
            unfold cGame_crossAll_b65 cGame_crossAll_b77 cGame_crossAll_b91
            rw [e3, e5, bin_nI hj (by decide), bin_nI hj (by decide), show (nI j + ci_1 : Int32) = nI (j + 1) from nI_add j 1, show (nI l.length + ci_1 : Int32) = nI (l.length + 1) from nI_add _ 1]
            by_cases y : w < 0
            · rw [if_neg (Int32.not_le.mpr y), if_pos y]
            · rw [if_pos (Int32.not_lt.mp y), if_neg y]
          rw [key, ← el]
          have f2 : frC sc68 σ0 (uA σ2 70 (nI j) (nI l.length)) := frCaA (f.trans (t2.mono (fun a z => Or.inl z))) (Or.inr rfl)
          have r := g_cross_l v pre hn hI hi hh hx0 hb hs e00 hW (by rw [← hR]; exact hr) hpre hx k (j + 1) (uA σ2 70 (nI j) (nI l.length)) (t1.of (fun a x y => ⟨rfl, uA_o _ _ _ _ (by omega)⟩)) f2 (by
            rw [← hR, el]
            have e5 : (l ++ [j]).length = l.length + 1 := by rw [List.length_append]; rfl
            rw [e5]
            refine ⟨t3, t4, fun q hq => ?_⟩
            rw [uA_2, nI_clamp (by omega)]
            by_cases y : q = l.length
            · subst y
              have eg : (l ++ [j]).getD l.length 0 = j := by
                have := getD_mid l [] j
                rw [List.append_nil] at this
                exact this
              rw [eg, if_pos ⟨rfl, rfl⟩]
            · have hq2 : q < l.length := by omega
              rw [getD_pre hq2]
              have nq : ¬ l.getD q 0 = j := fun y2 => nj (by rw [← y2, getD_get hq2]; exact List.getElem_mem hq2)
              rw [if_neg (fun y2 => nq y2.2), (t2 70 (by decide)).2.1]
              exact hg.2.2 q hq2) hj (by omega)
          rw [← hR] at r
          exact r
        have hjM := hrow.1
        have hhm : ∀ m, m < tM T → ¬ (-1 : Int32) = nI (tHome T m) := fun m hm y => nI_m1 (show tHome T m < 2 ^ 31 by have := hI.2.2.2.2.2.1 m hm; omega) y.symm
        have lM : ∀ m, m ∈ l → m < tM T := fun m hm => by
          obtain ⟨q1, hq1, eq1⟩ := mem_getD hm
          have y := (hr.1 q1 (by omega)).1
          rw [Rq q1 hq1, eq1] at y
          exact y
        have s6 : ∀ m, rwG T L b h R G (l.length + 1) 6 m = (if D 3 b < 0 then (if m = j then nI b else D 6 m) else if m = j ∨ (m < tM T ∧ D 6 m = nI b) then -1 else D 6 m) := fun m => by rw [eD]; rfl
        have s5 : ∀ m, rwG T L b h R G (l.length + 1) 5 m = (if D 3 b < 0 then (if m = j then -1 else D 5 m) else if m = j ∨ (m < tM T ∧ D 6 m = nI b) then D 3 b else D 5 m) := fun m => by rw [eD]; rfl
        have ma : ∀ m, m ∈ l ++ [j] ↔ (m ∈ l ∨ m = j) := fun m => by rw [List.mem_append, List.mem_singleton]
        by_cases hla : D 3 b < 0
        · rw [if_pos hla]
          simp only [e4]
          rw [bits_put _ hj]
          refine tail _ (hT.fr (P := fun a => a = 68) (frC.uI rfl) (fun a x y => by omega)) (frC.uI rfl) ?_ ?_
          · rw [uI_1, if_pos ⟨rfl, rfl⟩]
            apply bitsOf_congr
            intro m hm
            rw [s6 m, if_pos hla, ma m]
            by_cases y : m = j
            · rw [if_pos y]
              exact ⟨fun _ => ⟨Or.inr y, rfl⟩, fun _ => Or.inr y⟩
            · rw [if_neg y]
              exact ⟨fun q => q.elim (fun q => ⟨Or.inl q.1, q.2⟩) (fun q => absurd q y), fun q => Or.inl ⟨q.1.resolve_right y, q.2⟩⟩
          · rw [uI_1, if_neg (by decide), hg.2.1]
            apply bitsOf_congr
            intro m hm
            rw [s5 m, if_pos hla, ma m]
            by_cases y : m = j
            · rw [if_pos y]
              exact ⟨fun q => absurd (y ▸ q.1) nj, fun q => absurd q.2 (by rw [y]; exact hhm j hjM)⟩
            · rw [if_neg y]
              exact ⟨fun q => ⟨Or.inl q.1, q.2⟩, fun q => ⟨q.1.resolve_right y, q.2⟩⟩
        · rw [if_neg hla]
          simp only [e4]
          rw [bits_put _ hj]
          have f1 : frC (fun a => a = 68) σ (uI σ 68 4 (bitsOf (fun m => (m ∈ l ∧ D 6 m = nI b) ∨ m = j) 7)) := frC.uI rfl
          obtain ⟨σ2, g1, g2, g3, g4⟩ := g_land_l (n := n) (x := D 3 b) (P := fun m => (m ∈ l ∧ D 6 m = nI b) ∨ m = j) (Q := fun m => m ∈ l ∧ D 5 m = nI (tHome T m)) hI (fun m q => q.elim (fun q => lM m q.1) (fun q => by rw [q]; exact hjM)) n 0 (uI σ 68 4 (bitsOf (fun m => (m ∈ l ∧ D 6 m = nI b) ∨ m = j) 7)) (hT.fr f1 (fun a x y => by omega)) (by rw [uI_1, if_pos ⟨rfl, rfl⟩]) (by
            rw [uI_1, if_neg (by decide), hg.2.1]
            apply bitsOf_congr
            intro m hm
            exact ⟨fun q => Or.inl q, fun q => q.elim (fun q => q) (fun q => absurd q.1 (Nat.not_lt_zero m))⟩) (by omega) (by omega)
          unfold cGame_landAllAt
          rw [show cGame_landAllAt_b2 n n (D 3 b) ci_0 (uI σ 68 4 (bitsOf (fun m => (m ∈ l ∧ D 6 m = nI b) ∨ m = j) 7)) = _ from g1, ob_def]
          refine tail σ2 ((hT.fr f1 (fun a x y => by omega)).fr g4 (fun a x y => by omega)) (f1.trans g4) ?_ ?_
          · rw [g2]
            have q0 : bitsOf (fun m => m ∈ l ++ [j] ∧ rwG T L b h R G (l.length + 1) 6 m = nI b) 7 = bitsOf (fun _ => False) 7 := by
              apply bitsOf_congr
              intro m hm
              rw [s6 m, if_neg hla, ma m]
              refine ⟨fun q => ?_, fun q => q.elim⟩
              by_cases c : m = j ∨ (m < tM T ∧ D 6 m = nI b)
              · rw [if_pos c] at q
                exact nI_m1 (show b < 2 ^ 31 by omega) q.2.symm
              · rw [if_neg c] at q
                have q1 := q.1.resolve_right (fun y => c (Or.inl y))
                exact c (Or.inr ⟨lM m q1, q.2⟩)
            rw [q0]
            decide
          · rw [g3]
            apply bitsOf_congr
            intro m hm
            rw [s5 m, if_neg hla, ma m]
            by_cases c : m = j ∨ (m < tM T ∧ D 6 m = nI b)
            · rw [if_pos c]
              constructor
              · rintro (q | q)
                · rcases c with c | c
                  · exact absurd (c ▸ q.1) nj
                  · rcases ip.2.2 m c.1 with ⟨u, -⟩ | ⟨u, -⟩
                    · exact absurd (c.2.symm.trans u) (nI_m1 (by omega))
                    · exact absurd (u.symm.trans q.2) (hhm m c.1)
                · exact ⟨q.1.elim (fun y => Or.inl y.1) (fun y => Or.inr y), q.2.symm⟩
              · intro q
                refine Or.inr ⟨?_, q.2.symm⟩
                rcases c with c | c
                · exact Or.inr c
                · exact q.1.elim (fun y => Or.inl ⟨y, c.2⟩) (fun y => Or.inr y)
            · rw [if_neg c]
              constructor
              · rintro (q | q)
                · exact ⟨Or.inl q.1, q.2⟩
                · exact absurd (q.1.elim (fun y => Or.inr ⟨lM m y.1, y.2⟩) (fun y => Or.inl y)) c
              · intro q
                exact Or.inl ⟨q.1.resolve_right (fun y => c (Or.inl y)), q.2⟩
    · have e : j = 7 := by omega
      subst e
      rw [if_pos (Int32.le_refl _)]
      exact ⟨σ, rfl, hg, f, hT⟩
