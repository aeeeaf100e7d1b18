/-! what has been told so far, on both sides -/
def nmIn (N : nmS) (B G M : Nat) : Prop := ∀ i, i < N.length → ((N.getD i dN).2.1 = 0 → (N.getD i dN).2.2 < B) ∧ ((N.getD i dN).2.1 = 1 → (N.getD i dN).2.2 < G) ∧ ((N.getD i dN).2.1 = 2 → (N.getD i dN).2.2 < M)
theorem nmIn.snoc {N : nmS} {B G M B' G' M' k nu : Nat} {w : List Nat} (h : nmIn N B G M) (hB : B ≤ B') (hG : G ≤ G') (hM : M ≤ M') (h0 : k = 0 → nu < B') (h1 : k = 1 → nu < G') (h2 : k = 2 → nu < M') : nmIn (N ++ [(w, k, nu)]) B' G' M' := fun i hi => by
  rw [List.length_append, List.length_singleton] at hi
  rw [List.getD_eq_getElem?_getD]
  by_cases z : i < N.length
  · rw [List.getElem?_append_left z, ← List.getD_eq_getElem?_getD]
    obtain ⟨a, b, c⟩ := h i z
    exact ⟨fun u => Nat.lt_of_lt_of_le (a u) hB, fun u => Nat.lt_of_lt_of_le (b u) hG, fun u => Nat.lt_of_lt_of_le (c u) hM⟩
  · rw [List.getElem?_append_right (by omega), show i - N.length = 0 by omega]
    exact ⟨h0, h1, h2⟩
theorem fI_in {N : nmS} {w : List Nat} {k : Nat} : ∀ (r i x : Nat), i + r = N.length → fI N w k r i = some x → ∃ j, j < N.length ∧ (N.getD j dN).2.1 = k ∧ (N.getD j dN).2.2 = x
  | 0, i, x, hi, h => by cases h
  | r + 1, i, x, hi, h => by
    rw [fI] at h
    split at h
    · rename_i z
      exact ⟨i, by omega, z.2, Option.some.inj h⟩
    · exact fI_in r (i + 1) x (by omega) h
theorem nmIn.bank {N : nmS} {B G M x : Nat} {w : List Nat} (h : nmIn N B G M) (e : fndN N w 0 = some x) : x < B := by
  obtain ⟨j, a, b, c⟩ := fI_in N.length 0 x (by omega) e
  have := (h j a).1 b
  omega
theorem nmIn.bridge {N : nmS} {B G M x : Nat} {w : List Nat} (h : nmIn N B G M) (e : fndN N w 1 = some x) : x < G := by
  obtain ⟨j, a, b, c⟩ := fI_in N.length 0 x (by omega) e
  have := (h j a).2.1 b
  omega
theorem nmIn.man {N : nmS} {B G M x : Nat} {w : List Nat} (h : nmIn N B G M) (e : fndN N w 2 = some x) : x < M := by
  obtain ⟨j, a, b, c⟩ := fI_in N.length 0 x (by omega) e
  have := (h j a).2.2 b
  omega
def Cnt (N : nmS) (B P G M : Nat) (σC σM : bS) : Prop := (N.length = B + G + M ∧ nmIn N B G M) ∧ (B ≤ 6 ∧ P ≤ 10 ∧ G ≤ 4 ∧ M ≤ 7) ∧ (σC.1 14 0 = nI B ∧ σC.1 14 1 = nI P ∧ σC.1 14 2 = nI G ∧ σC.1 14 3 = nI M) ∧ (σM.2.1 12 1 = nI B ∧ σM.2.1 13 1 = nI P ∧ σM.2.1 17 1 = nI G ∧ σM.2.1 20 1 = nI M)
/-- the shortest PATH -/
def wlF (a b w : Nat) (q : Nat × Nat × Nat) : Nat := if ((q.1 = a ∧ q.2.1 = b) ∨ (q.1 = b ∧ q.2.1 = a)) ∧ (w = 0 ∨ q.2.2 < w) then q.2.2 else w
def wlk (Q : List (Nat × Nat × Nat)) (a b : Nat) : Nat := Q.foldl (wlF a b) 0
abbrev p0 : Nat × Nat × Nat := (0, 0, 0)
def PCp (B P : Nat) (σC σM : bS) : Prop := ∃ Q : List (Nat × Nat × Nat), Q.length = P ∧ (∀ q, q ∈ Q → q.1 < B ∧ q.2.1 < B ∧ ¬ q.1 = q.2.1 ∧ 1 ≤ q.2.2 ∧ q.2.2 ≤ 9) ∧ (∀ j, j < P → σM.2.1 14 (10 + j) = nI (Q.getD j p0).1 ∧ σM.2.1 15 (10 + j) = nI (Q.getD j p0).2.1 ∧ σM.2.1 16 (10 + j) = nI (Q.getD j p0).2.2) ∧ ∀ x y, x < 6 → y < 6 → σC.2.1 15 (6 * x + y) = nI (wlk Q x y)
def PCb (B G : Nat) (σC σM : bS) : Prop := ∀ b, b < G → (∃ f, f < B ∧ σC.2.1 16 b = nI f ∧ σM.2.1 18 (4 + b) = nI f) ∧ orN B (σC.2.1 17 b) ∧ σM.2.1 19 (4 + b) = md (σC.2.1 17 b)
def PCm (B M : Nat) (σC σM : bS) : Prop := ∀ m, m < M → (∃ f, f < B ∧ σC.2.1 18 m = nI f ∧ σM.2.1 21 (7 + m) = nI f) ∧ (∃ f, f < B ∧ σC.2.1 19 m = nI f ∧ σM.2.1 22 (7 + m) = nI f) ∧ σM.2.1 23 (7 + m) = σC.2.1 20 m
def PCs (σC σM : bS) : Prop := ((σC.1 14 15 = -1 ∨ ∃ d, d < 24 ∧ σC.1 14 15 = nI d) ∧ σM.2.1 24 4 = md (σC.1 14 15)) ∧ (∃ p, p ≤ 100 ∧ σC.1 14 16 = nI p ∧ σM.2.1 24 5 = nI p) ∧ σM.2.1 24 6 = σC.1 14 17 ∧ σM.2.1 24 7 = σC.1 14 18
def cellL (k : Nat) (σ : bS) : Int32 := if k < 7 then σ.2.1 21 k else if k < 11 then σ.2.1 22 (k - 7) else σ.1 14 (k + 1)
def LwR (k a m : Nat) (σC σM : bS) : Prop := (cellL k σC = -1 ∧ σM.2.1 9 (14 + k) = -1) ∨ ∃ (p : Nat) (q : lwS), okL q ∧ cellL k σC = nI p ∧ p + (lawC p q.1 q.2).length ≤ a ∧ AtC p (lawC p q.1 q.2) σC ∧ q.1.length ≤ 4 ∧ accM k q.1 m σM ∧ SegM k (3 * q.1.length) q.2 m σM ∧ σM.2.1 9 (14 + k) = nI q.1.length
theorem LwR.keep {k a m a' m' : Nat} {σC σM σC' σM' : bS} (hk : k < 14) (h : LwR k a m σC σM) (h1 : cellL k σC' = cellL k σC) (h2 : frA a σC σC') (ha : a ≤ a') (h9 : σM'.2.1 9 (14 + k) = σM.2.1 9 (14 + k)) (h10 : ∀ j, j < 14 → σM'.2.1 10 (196 + 14 * k + j) = σM.2.1 10 (196 + 14 * k + j) ∧ σM'.2.1 11 (196 + 14 * k + j) = σM.2.1 11 (196 + 14 * k + j)) (h7 : frB m σM σM') (hm : m ≤ m') : LwR k a' m' σC' σM' := by
  rcases h with ⟨e1, e2⟩ | ⟨p, q, e1, e2, e3, e4, e5, e6, e7, e8⟩
  · exact Or.inl ⟨h1.trans e1, h9.trans e2⟩
  · refine Or.inr ⟨p, q, e1, h1.trans e2, by omega, e4.keep h2 (by omega), e5, fun i hi => ?_, e7.keep h7 (h10 _ (by omega)) hm, h9.trans e8⟩
    obtain ⟨f1, f2, f3⟩ := e6 i hi
    exact ⟨f1.keep h7 (h10 _ (by omega)) hm, f2.keep h7 (h10 _ (by omega)) hm, f3.keep h7 (h10 _ (by omega)) hm⟩
def PC (B P G M a m : Nat) (σC σM : bS) : Prop := PCp B P σC σM ∧ PCb B G σC σM ∧ PCm B M σC σM ∧ PCs σC σM ∧ ∀ k, k < 14 → LwR k a m σC σM
theorem orN.le {n n' : Nat} {x : Int32} (h : orN n x) (le : n ≤ n') : orN n' x := by
  rcases h with h | ⟨j, h1, h2⟩
  · exact Or.inl h
  · exact Or.inr ⟨j, by omega, h2⟩
theorem PCp.of {B B' P : Nat} {σC σM σC' σM' : bS} (hB : B ≤ B') (h : PCp B P σC σM) (h15 : σC'.2.1 15 = σC.2.1 15) (hM : ∀ a j, 14 ≤ a → a ≤ 16 → j < 10 + P → σM'.2.1 a j = σM.2.1 a j) : PCp B' P σC' σM' := by
  obtain ⟨Q, a, b, c, d⟩ := h
  refine ⟨Q, a, fun q hq => ?_, fun j hj => ?_, fun x y hx hy => ?_⟩
  · obtain ⟨b1, b2, b3⟩ := b q hq
    exact ⟨by omega, by omega, b3⟩
  · rw [hM 14 _ (by omega) (by omega) (by omega), hM 15 _ (by omega) (by omega) (by omega), hM 16 _ (by omega) (by omega) (by omega)]
    exact c j hj
  · rw [h15]
    exact d x y hx hy
theorem PCb.of {B B' G : Nat} {σC σM σC' σM' : bS} (hB : B ≤ B') (h : PCb B G σC σM) (hC : ∀ a j, 16 ≤ a → a ≤ 17 → j < G → σC'.2.1 a j = σC.2.1 a j) (hM : ∀ a j, 18 ≤ a → a ≤ 19 → j < 4 + G → σM'.2.1 a j = σM.2.1 a j) : PCb B' G σC' σM' := fun b hb => by
  obtain ⟨⟨f, a1, a2, a3⟩, a4, a5⟩ := h b hb
  rw [hC 16 b (by omega) (by omega) hb, hC 17 b (by omega) (by omega) hb, hM 18 _ (by omega) (by omega) (by omega), hM 19 _ (by omega) (by omega) (by omega)]
  exact ⟨⟨f, by omega, a2, a3⟩, a4.le hB, a5⟩
theorem PCm.of {B B' M : Nat} {σC σM σC' σM' : bS} (hB : B ≤ B') (h : PCm B M σC σM) (hC : ∀ a j, 18 ≤ a → a ≤ 20 → j < M → σC'.2.1 a j = σC.2.1 a j) (hM : ∀ a j, 21 ≤ a → a ≤ 23 → j < 7 + M → σM'.2.1 a j = σM.2.1 a j) : PCm B' M σC' σM' := fun m hm => by
  obtain ⟨⟨f, a1, a2, a3⟩, ⟨f', b1, b2, b3⟩, a5⟩ := h m hm
  rw [hC 18 m (by omega) (by omega) hm, hC 19 m (by omega) (by omega) hm, hC 20 m (by omega) (by omega) hm, hM 21 _ (by omega) (by omega) (by omega), hM 22 _ (by omega) (by omega) (by omega), hM 23 _ (by omega) (by omega) (by omega)]
  exact ⟨⟨f, by omega, a2, a3⟩, ⟨f', by omega, b2, b3⟩, a5⟩
theorem PCs.of {σC σM σC' σM' : bS} (h : PCs σC σM) (hC : ∀ j, 15 ≤ j → σC'.1 14 j = σC.1 14 j) (hM : σM'.2.1 24 = σM.2.1 24) : PCs σC' σM' := by
  unfold PCs
  rw [hC 15 (by omega), hC 16 (by omega), hC 17 (by omega), hC 18 (by omega), hM]
  exact h
theorem PCl.of {a m : Nat} {σC σM σC' σM' : bS} (h : ∀ k, k < 14 → LwR k a m σC σM) (h1 : ∀ j, 12 ≤ j → j ≤ 14 → σC'.1 14 j = σC.1 14 j) (h2 : ∀ b, b = 21 ∨ b = 22 ∨ b = 24 → σC'.2.1 b = σC.2.1 b) (hM : ∀ b, 7 ≤ b → b ≤ 11 → σM'.2.1 b = σM.2.1 b) : ∀ k, k < 14 → LwR k a m σC' σM' := fun k hk => (h k hk).keep hk (by
  unfold cellL
  rw [h2 21 (by omega), h2 22 (by omega)]
  split
  · rfl
  split
  · rfl
  · exact h1 _ (by omega) (by omega)) (fun i _ => by rw [h2 24 (by omega)]) (Nat.le_refl _) (by rw [hM 9 (by omega) (by omega)]) (fun j _ => by rw [hM 10 (by omega) (by omega), hM 11 (by omega) (by omega)]; exact ⟨rfl, rfl⟩) (fun i _ => by rw [hM 7 (by omega) (by omega), hM 8 (by omega) (by omega)]; exact ⟨rfl, rfl⟩) (Nat.le_refl _)
def PR (s : tS) (nx : Nat) (U : Option (Nat × Nat)) (N : nmS) (B P G M a m : Nat) (σC σM : bS) : Prop := PK s nx U N a m σC σM ∧ Cnt N B P G M σC σM ∧ (U = none → PC B P G M a m σC σM)
/-- a statement of the reference and the ; behind it -/
def mSt (n : Nat) (x : Option (Int32 × bS)) : Option (Int32 × bS) := ob x fun q1 => if q1.1 = 0 then some (0, q1.2) else ob (m_takesSign n cb_59 q1.2) fun q2 => some q2
def StO (n : Nat) (s : tS) (nx : Nat) (rC : Option bS) (rM : Option (Int32 × bS)) (σC σM : bS) : Prop := ∃ σC' σM', rC = some σC' ∧ ((mSt n rM = some (0, σM') ∧ Dd s σC σM σC' σM') ∨ (mSt n rM = some (1, σM') ∧ frQq σC σC' ∧ frJ σM σM' ∧ ∃ nx' U' N' B' P' G' M' a' m', nx < nx' ∧ PR s nx' U' N' B' P' G' M' a' m' σC' σM'))
theorem PK.uI14 {s : tS} {nx a m j : Nat} {N : nmS} {U : Option (Nat × Nat)} {v : Int32} {σC σM : bS} (h : PK s nx U N a m σC σM) : PK s nx U N a m (uI σC 14 j v) σM := by
  obtain ⟨⟨⟨hC, h5⟩, hM⟩, ⟨ha1, ha2, hm1, hm2⟩, ⟨hU, hUC, hUM⟩, hN, hNC, hNM⟩ := h
  refine ⟨⟨⟨⟨hC.1, ?_, hC.2.2.1, hC.2.2.2⟩, ?_⟩, hM⟩, ⟨?_, ha2, hm1, hm2⟩, ⟨hU, hUC.of ?_ ?_, hUM⟩, hN, hNC.of rfl ?_, hNM⟩
  all_goals first | (rw [uI_1, if_neg (by omega)]; done) | (rw [uI_1, if_neg (by omega)]; first | assumption | exact hC.2.1)
theorem PK.uAC {s : tS} {nx a m b : Nat} {N : nmS} {U : Option (Nat × Nat)} {i v : Int32} {σC σM : bS} (hb : 15 ≤ b ∧ b ≤ 22) (h : PK s nx U N a m σC σM) : PK s nx U N a m (uA σC b i v) σM := by
  obtain ⟨⟨⟨hC, h5⟩, hM⟩, ⟨ha1, ha2, hm1, hm2⟩, ⟨hU, hUC, hUM⟩, hN, hNC, hNM⟩ := h
  refine ⟨⟨⟨⟨fun j h1 h2 => ?_, hC.2.1, hC.2.2.1, hC.2.2.2⟩, h5⟩, hM⟩, ⟨ha1, ha2, hm1, hm2⟩, ⟨hU, hUC.of rfl rfl, hUM⟩, hN, ⟨hNC.1, fun j hj => ?_⟩, hNM⟩
  · rw [uA_o _ _ _ _ (by omega), uA_o _ _ _ _ (by omega)]
    exact hC.1 j h1 h2
  · rw [uA_o _ _ _ _ (by omega), uA_o _ _ _ _ (by omega)]
    exact hNC.2 j hj
theorem PK.uAM {s : tS} {nx a m b : Nat} {N : nmS} {U : Option (Nat × Nat)} {i v : Int32} {σC σM : bS} (hb : 7 ≤ b ∧ b ≤ 24) (h : PK s nx U N a m σC σM) : PK s nx U N a m σC (uA σM b i v) := by
  obtain ⟨⟨hC, hM⟩, ⟨ha1, ha2, hm1, hm2⟩, ⟨hU, hUC, hUM⟩, hN, hNC, hNM⟩ := h
  refine ⟨⟨hC, ⟨fun j hj => ?_, hM.2.1, hM.2.2.1, hM.2.2.2⟩⟩, ⟨ha1, ha2, ?_, hm2⟩, ⟨hU, hUC, hUM.of rfl rfl⟩, hN, hNC, ⟨hNM.1, fun j hj => ?_⟩⟩
  · rw [uA_o _ _ _ _ (by omega), uA_o _ _ _ _ (by omega), uA_o _ _ _ _ (by omega)]
    exact hM.1 j hj
  · rw [uA_o _ _ _ _ (by omega)]; exact hm1
  · rw [uA_o _ _ _ _ (by omega), uA_o _ _ _ _ (by omega)]
    exact hNM.2 j hj
theorem twcU_n {U : Option (Nat × Nat)} {N : nmS} {w : List Nat} {j : Nat} (h : twcU U N w j = none) : U = none := by
  unfold twcU at h
  split at h
  · cases U with
    | none => rfl
    | some q => cases h
  · exact h
theorem unkU_n {U : Option (Nat × Nat)} {o : Option Nat} {j : Nat} (h : unkU U o j = none) : U = none ∧ ∃ x, o = some x := by
  unfold unkU at h
  cases o with
  | none => cases U with
    | none => cases h
    | some q => cases h
  | some x => exact ⟨h, x, rfl⟩
theorem wrgU_n {U : Option (Nat × Nat)} {lo hi v j : Nat} (h : wrgU U lo hi v j = none) : U = none ∧ lo ≤ v ∧ v ≤ hi := by
  unfold wrgU at h
  split at h
  · cases U with
    | none => cases h
    | some q => cases h
  · exact ⟨h, by omega, by omega⟩
theorem k_first {s : tS} {n nx k c mo a m : Nat} {N : nmS} {U : Option (Nat × Nat)} {x y z : Int32} {σC σM : bS} (hT : okT s) (h : PK s nx U N a m σC σM) (hx : x = nI k) (hk : tkd s nx = k) (hk13 : 13 ≤ k) (hy : y = nI c) (hz : z = nI mo) (hc : c ≤ mo) (hm : mo ≤ 100) : (c < mo ∧ cReader_takeFirst n x y z σC = some (uI σC 44 4 (nI (nx + 1))) ∧ m_pass n σM = some (1, uI σM 0 7 (nI (nx + 1))) ∧ PK s (nx + 1) U N a m (uI σC 44 4 (nI (nx + 1))) (uI σM 0 7 (nI (nx + 1)))) ∨ (c < mo ∧ ∃ σC' σM', cReader_takeFirst n x y z σC = some σC' ∧ m_pass n σM = some (0, σM') ∧ Dd s σC σM σC' σM') ∨ (c = mo ∧ ∃ σC' σM', cReader_takeFirst n x y z σC = some σC' ∧ m_wrong n ci_2 σM = some (0, σM') ∧ Dd s σC σM σC' σM') := by
  have h0 := h
  obtain ⟨⟨hC, hM⟩, ⟨ha1, ha2, hm1, hm2⟩, -⟩ := h
  have nx4 := hC.1.2.2.1
  have k36 := hT.1 nx
  by_cases w : c < mo
  · have e : cReader_takeFirst n x y z σC = cReader_take n x σC := by
      unfold cReader_takeFirst
      rw [hy, hz, if_pos ((nI_ltI (by omega) (by omega)).mpr w), cReader_takeFirst_b10]
      cases cReader_take n x σC with
      | none => rfl
      | some q => rfl
    rw [e]
    rcases k_word (n := n) hT h0 hx hk hk13 with ⟨_, t1, t2, t3⟩ | ⟨σ1, σ2, t1, t2, t3⟩
    · exact Or.inl ⟨w, t1, t2, t3⟩
    · exact Or.inr (Or.inl ⟨w, σ1, σ2, t1, t2, t3⟩)
  · obtain ⟨σ2, u1, u2, u3, u4⟩ := m_wrong_eq (n := n) (x := ci_2) (f := 2) (by decide) hM
    rcases c_firstE (n := n) (x := x) (y := y) (z := z) hT hC hx hy hz (by omega) (by omega) hc hm ha1 (by omega) with ⟨q, -⟩ | ⟨q, -⟩ | ⟨q, σ1, t1, t2, t3⟩
    · exact absurd q w
    · exact absurd q w
    · exact Or.inr (Or.inr ⟨q, σ1, σ2, t1, u1, _, _, t2, u2, frQq.ofZ t3, frJ.ofV (frV.ofE u3 u4)⟩)
theorem frQq.u44 {σ : bS} {k : Nat} {v : Int32} : frQq σ (uI σ 44 k v) := frC.uI (Or.inr ⟨by omega, by omega⟩)
theorem frQq.u14 {σ : bS} {k : Nat} {v : Int32} : frQq σ (uI σ 14 k v) := frC.uI (Or.inl ⟨by omega, by omega⟩)
theorem frQq.uA {σ : bS} {b : Nat} {i v : Int32} (hb : 14 ≤ b ∧ b ≤ 24) : frQq σ (uA σ b i v) := frC.uA (Or.inl hb)
theorem frJ.u7 {σ : bS} {v : Int32} : frJ σ (uI σ 0 7 v) := frJ.ofV (frV.uI (by decide))
theorem frJ_uA1 {σ : bS} {b : Nat} {v : Int32} (hb : b = 12 ∨ b = 13 ∨ b = 17 ∨ b = 20) : frJ σ (uA σ b ci_1 v) := frJ.uA (a := b) (i := 1) (by omega) (by rcases hb with rfl | rfl | rfl | rfl <;> decide) (by omega)
/-- the number of a sort that has grown by one -/
theorem rd14 {σ σC : bS} (e : σ.1 14 = σC.1 14) (v w : Int32) (j0 j : Nat) : (uI (uI σ 44 4 v) 14 j0 w).1 14 j = if j = j0 then w else σC.1 14 j := by
  rw [uI_1]
  by_cases z : j = j0
  · rw [if_pos ⟨rfl, z⟩, if_pos z]
  · rw [if_neg (fun u => z u.2), if_neg z, uI_1, if_neg (by omega), e]
theorem e_14 {σ σC : bS} {v : Int32} (f : frN (uI σC 44 4 v) σ) : σ.1 14 = σC.1 14 := by
  rw [(frN_k f 14 (by omega)).1]
  funext j
  rw [uI_1, if_neg (by omega)]
theorem ci1_clamp : ci_1.toNatClampNeg = 1 := by decide
theorem rdA1 {σ : bS} {b b' j : Nat} {w : Int32} : (uA σ b ci_1 w).2.1 b' j = if b' = b ∧ j = 1 then w else σ.2.1 b' j := by rw [uA_2, ci1_clamp]
theorem st_bank {s : tS} {n nx B P G M a m : Nat} {U : Option (Nat × Nat)} {N : nmS} {σC σM : bS} (hn : 500 ≤ n) (hT : okT s) (h : PR s nx U N B P G M a m σC σM) (hk : tkd s nx = 13) : StO n s nx (cReader_readBank n σC) (m_tellBank n σM) σC σM := by
  obtain ⟨hK, hQ, hc⟩ := h
  obtain ⟨⟨hl, hin⟩, ⟨b6, p10, g4, m7⟩, ⟨c0, c1, c2, c3⟩, ⟨d0, d1, d2, d3⟩⟩ := id hQ
  unfold StO cReader_readBank m_tellBank
  rw [bin_1 _ (by decide) (by decide), sA_1, d0, cb_6_n]
  rcases k_first (n := n) (x := cb_13) (k := 13) (y := sI σC 14 0) (c := B) (z := nI 6) (mo := 6) hT hK (by decide) hk (by omega) c0 rfl b6 (by omega) with ⟨lt, t1, u1, h1⟩ | ⟨lt, σ1, σ2, t1, u1, dd⟩ | ⟨eq, σ1, σ2, t1, u1, dd⟩
  · rw [t1, ob_def, if_neg (show ¬ nI B = nI 6 from fun u => by have := nI_inj (by omega) (by omega) u; omega), u1, ob_def, if_neg one_ne, bin_1 _ (by decide) (by decide)]
    have e0 : sI (uI σC 44 4 (nI (nx + 1))) 14 0 = nI B := by
      show (uI σC 44 4 (nI (nx + 1))).1 14 0 = _
      rw [uI_1, if_neg (by decide)]
      exact c0
    rcases k_new (n := n) (k := 0) (nu := B) (x := cb_13) (y := sI (uI σC 44 4 (nI (nx + 1))) 14 0) (x2 := ci_0) (y2 := sA (uI σM 0 7 (nI (nx + 1))) 12 ci_1) (by omega) hT h1 (by omega) (by omega) (by omega) (by decide) e0 rfl (by rw [sA_1]; exact d0) with ⟨v0, σ1, σ2, v1, v2, v3, v4, v5⟩ | ⟨σ1, σ2, v1, v2, dd⟩
    · have e12 : sA σ2 12 ci_1 = nI B := by rw [sA_1, v5.1 12 (by decide)]; exact d0
      rw [v1, ob_def, v2, ob_def, if_neg one_ne, bin_1 _ (by decide) (by decide), bin_1 _ (by decide) (by decide), bz_1]
      show ∃ σC' σM', (ob (cReader_take n ci_4 σ1) fun q3 => _) = _ ∧ ((mSt n (some (1, uA σ2 12 ci_1 (sA σ2 12 ci_1 + ci_1))) = _ ∧ _) ∨ (mSt n (some (1, uA σ2 12 ci_1 (sA σ2 12 ci_1 + ci_1))) = _ ∧ _))
      rw [e12, nI_s]
      unfold mSt
      rw [ob_def, if_neg one_ne]
      have fC : frQq σC σ1 := frQq.u44.trans (frQq.ofN v4)
      have fM : frJ σM (uA σ2 12 ci_1 (nI (B + 1))) := (frJ.u7.trans (frJ.ofW v5)).trans (frJ_uA1 (Or.inl rfl))
      rcases k_semi (n := n) hT (PK.uAM (b := 12) (i := ci_1) (v := nI (B + 1)) (by omega) v3) with ⟨w0, w1, w2, w3⟩ | ⟨σ3, σ4, w1, w2, dd⟩
      · have e14 : sI (uI σ1 44 4 (nI (nx + 1 + 1 + 1))) 14 0 = nI B := by
          show (uI σ1 44 4 (nI (nx + 1 + 1 + 1))).1 14 0 = _
          rw [uI_1, if_neg (by decide), e_14 v4]
          exact c0
        rw [w1, ob_def, w2, ob_def, if_pos (show sI (uI σ1 44 4 (nI (nx + 1 + 1 + 1))) 44 5 = 0 from w3.1.1.2), cReader_readBank_b53, e14, nI_s]
        have r14 := fun j => rd14 (e_14 v4) (nI (nx + 1 + 1 + 1)) (nI (B + 1)) 0 j
        have rA : ∀ b, 15 ≤ b → b ≤ 24 → σ1.2.1 b = σC.2.1 b := fun b h1 h2 => by rw [(frN_k v4 b (by omega)).2]; rfl
        have rM : ∀ b, ¬ b = 12 → ¬ b = 26 → ¬ b = 27 → (uI (uA σ2 12 ci_1 (nI (B + 1))) 0 7 (nI (nx + 1 + 1 + 1))).2.1 b = σM.2.1 b := fun b q1 q2 q3 => by rw [uI_2, uA_o _ _ _ _ q1, v5.1 b (by omega)]; rfl
        refine ⟨_, _, rfl, Or.inr ⟨rfl, (fC.trans frQq.u44).trans frQq.u14, fM.trans frJ.u7, nx + 1 + 1 + 1, _, _, B + 1, P, G, M, a, m, by omega, w3.uI14, ?_, fun hu => ?_⟩⟩
        · refine ⟨⟨by rw [List.length_append, List.length_singleton]; omega, hin.snoc (by omega) (by omega) (by omega) (by omega) (by omega) (by omega)⟩, ⟨by omega, p10, g4, m7⟩, ⟨?_, ?_, ?_, ?_⟩, ⟨?_, ?_, ?_, ?_⟩⟩
          · rw [r14, if_pos rfl]
          · rw [r14, if_neg (by omega)]; exact c1
          · rw [r14, if_neg (by omega)]; exact c2
          · rw [r14, if_neg (by omega)]; exact c3
          · rw [uI_2, rdA1, if_pos ⟨rfl, rfl⟩]
          · rw [rM 13 (by omega) (by omega) (by omega)]; exact d1
          · rw [rM 17 (by omega) (by omega) (by omega)]; exact d2
          · rw [rM 20 (by omega) (by omega) (by omega)]; exact d3
        · obtain ⟨q1, q2, q3, q4, q5⟩ := hc (twcU_n hu)
          refine ⟨q1.of (by omega) (rA 15 (by omega) (by omega)) (fun b j h1 h2 _ => by rw [rM b (by omega) (by omega) (by omega)]), q2.of (by omega) (fun b j h1 h2 _ => congrFun (rA b (by omega) (by omega)) j) (fun b j h1 h2 _ => by rw [rM b (by omega) (by omega) (by omega)]), q3.of (by omega) (fun b j h1 h2 _ => congrFun (rA b (by omega) (by omega)) j) (fun b j h1 h2 _ => by rw [rM b (by omega) (by omega) (by omega)]), q4.of (fun j hj => by rw [r14, if_neg (by omega)]) (rM 24 (by omega) (by omega) (by omega)), PCl.of q5 (fun j h1 h2 => by rw [r14, if_neg (by omega)]) (fun b hb => rA b (by omega) (by omega)) (fun b h1 h2 => rM b (by omega) (by omega) (by omega))⟩
      · rw [w1, ob_def, w2, ob_def]
        obtain ⟨f, p, g1, g2, g3, g4⟩ := id dd
        rw [if_neg g1.ne, cReader_readBank_b53]
        exact ⟨_, _, rfl, Or.inl ⟨rfl, dd.tr fC fM⟩⟩
    · obtain ⟨f, p, g1, g2, g3, g4⟩ := id dd
      rw [v1, ob_def, v2, ob_def, if_pos rfl, c_takeD g1, ob_def, if_neg g1.ne, cReader_readBank_b53, m_tellBank_b38, bz_0, mSt, ob_def, if_pos rfl]
      exact ⟨_, _, rfl, Or.inl ⟨rfl, dd.tr frQq.u44 frJ.u7⟩⟩
  · obtain ⟨f, p, g1, g2, g3, g4⟩ := id dd
    rw [t1, ob_def, if_neg (show ¬ nI B = nI 6 from fun u => by have := nI_inj (by omega) (by omega) u; omega), u1, ob_def, if_pos rfl, c_newD g1, ob_def, c_takeD g1, ob_def, if_neg g1.ne, cReader_readBank_b53, m_tellBank_b38, bz_0, mSt, ob_def, if_pos rfl]
    exact ⟨_, _, rfl, Or.inl ⟨rfl, dd⟩⟩
  · obtain ⟨f, p, g1, g2, g3, g4⟩ := id dd
    rw [t1, ob_def, if_pos (show nI B = nI 6 by rw [eq]), u1, ob_def, c_newD g1, ob_def, c_takeD g1, ob_def, if_neg g1.ne, cReader_readBank_b53, show bz ((0 : Int32), σ2).1 ((0 : Int32), σ2).2 = some (0, σ2) from rfl, mSt, ob_def, if_pos rfl]
    exact ⟨_, _, rfl, Or.inl ⟨rfl, dd⟩⟩
