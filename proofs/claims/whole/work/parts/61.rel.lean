/-! WHAT A STATE MEANS. A text: counts (BANKS, PATHS, BRIDGES, MEN), numbers (DAWN, PILGRIMS, HIRE, SEED), feet, homes, walks. -/
abbrev aT : Type := (Nat × Nat × Nat × Nat) × (Int32 × Int32 × Int32 × Int32) × (Nat → Nat) × (Nat → Nat) × (Nat → Nat → Nat)
abbrev tB (T : aT) : Nat := T.1.1
abbrev tP (T : aT) : Nat := T.1.2.1
abbrev tG (T : aT) : Nat := T.1.2.2.1
abbrev tM (T : aT) : Nat := T.1.2.2.2
abbrev tDawn (T : aT) : Int32 := T.2.1.1
abbrev tPil (T : aT) : Int32 := T.2.1.2.1
abbrev tHire (T : aT) : Int32 := T.2.1.2.2.1
abbrev tSeed (T : aT) : Int32 := T.2.1.2.2.2
abbrev tFoot (T : aT) : Nat → Nat := T.2.2.1
abbrev tHome (T : aT) : Nat → Nat := T.2.2.2.1
abbrev tWalk (T : aT) : Nat → Nat → Nat := T.2.2.2.2
/-- laws by what they mean: 0 .. 6 WISHES, 7 .. 10 TOLL, 11 GOES, 12 GAIN, 13 FANCY -/
abbrev aL : Type := Nat → Option ((Nat → Int32) → Int32)
/-- how it goes on, by tags: 0 hour, 1 costs, 2 hired, 3 last, 4 crossed, 5 at, 6 on, 7 purse, 8 times, 9 waited, 10 seed -/
abbrev aG : Type := Nat → Nat → Int32
def gset (G : aG) (t i : Nat) (v : Int32) : aG := fun t1 i1 => if t1 = t ∧ i1 = i then v else G t1 i1
/-- a number that is none: -1 in the class, -2 in the reference -/
def md (x : Int32) : Int32 := if x < 0 then -2 else x
/-- a law of the class: -1, or a place among the steps where f is worked out -/
def CL (σ : bS) (s : Int32) (o : Option ((Nat → Int32) → Int32)) : Prop := match o with
  | none => s = -1
  | some f => 0 ≤ s ∧ ∀ (n : Nat) (σ1 : bS), 500 ≤ n → σ1.2.1 11 = σ.2.1 11 → σ1.1 10 3 = σ.1 10 3 → ∃ σ2, cLaws_valueOf n s σ1 = some (f (σ1.2.1 13), σ2) ∧ frC (fun a => a = 12) σ1 σ2
theorem CL.of {σ σ' : bS} {s : Int32} {o : Option ((Nat → Int32) → Int32)} (h : CL σ s o) (h1 : σ'.2.1 11 = σ.2.1 11) (h2 : σ'.1 10 3 = σ.1 10 3) : CL σ' s o := by
  cases o with
  | none => exact h
  | some f => exact ⟨h.1, fun n σ1 hn a b => h.2 n σ1 hn (a.trans h1) (b.trans h2)⟩
/-- the reference's cells but these fields of its object and these arrays are unchanged -/
def frM (PI PA : Nat → Prop) (σ σ' : bS) : Prop := (∀ k, ¬ PI k → σ'.1 0 k = σ.1 0 k) ∧ (∀ a, ¬ PA a → σ'.2.1 a = σ.2.1 a) ∧ σ'.2.2 = σ.2.2
theorem frM.rf {PI PA : Nat → Prop} {σ : bS} : frM PI PA σ σ := ⟨fun _ _ => rfl, fun _ _ => rfl, rfl⟩
theorem frM.trans {PI PA : Nat → Prop} {σ σ1 σ2 : bS} (h : frM PI PA σ σ1) (h' : frM PI PA σ1 σ2) : frM PI PA σ σ2 := ⟨fun k hk => (h'.1 k hk).trans (h.1 k hk), fun a ha => (h'.2.1 a ha).trans (h.2.1 a ha), h'.2.2.trans h.2.2⟩
theorem frM.mono {PI PA QI QA : Nat → Prop} {σ σ1 : bS} (h : frM PI PA σ σ1) (h1 : ∀ a, PI a → QI a) (h2 : ∀ a, PA a → QA a) : frM QI QA σ σ1 := ⟨fun k hk => h.1 k (fun z => hk (h1 k z)), fun a ha => h.2.1 a (fun z => ha (h2 a z)), h.2.2⟩
theorem frM.uI {PI PA : Nat → Prop} {σ : bS} {k : Nat} {v : Int32} (h : PI k) : frM PI PA σ (uI σ 0 k v) := ⟨fun k1 hk => by
  rw [uI_1, if_neg]
  rintro ⟨-, rfl⟩
  exact hk h, fun _ _ => rfl, rfl⟩
theorem frM.uA {PI PA : Nat → Prop} {σ : bS} {a : Nat} {i v : Int32} (h : PA a) : frM PI PA σ (uA σ a i v) := ⟨fun _ _ => rfl, fun a1 ha => by
  funext j
  rw [uA_2, if_neg]
  rintro ⟨rfl, -⟩
  exact ha h, rfl⟩
/-- the first n of an array are alike: the reference lays a told text into the first halves -/
def eqH (n : Nat) (f g : Nat → Int32) : Prop := ∀ j, j < n → f j = g j
theorem eqH.of {n : Nat} {f g : Nat → Int32} (e : f = g) : eqH n f g := fun j _ => congrFun e j
theorem eqH.trans {n : Nat} {f g h : Nat → Int32} (a : eqH n f g) (b : eqH n g h) : eqH n f h := fun j hj => (a j hj).trans (b j hj)
def ML (σ : bS) (k : Nat) (o : Option ((Nat → Int32) → Int32)) : Prop := match o with
  | none => σ.2.1 9 k = -1
  | some f => ¬ σ.2.1 9 k = -1 ∧ ∀ (n : Nat) (z : Int32) (σ1 : bS), 1000 ≤ n → eqH 500 (σ1.2.1 7) (σ.2.1 7) → eqH 500 (σ1.2.1 8) (σ.2.1 8) → eqH 14 (σ1.2.1 9) (σ.2.1 9) → eqH 196 (σ1.2.1 10) (σ.2.1 10) → eqH 196 (σ1.2.1 11) (σ.2.1 11) → ∃ σ2, m_lawOf n (nI k) z σ1 = some (f (σ1.2.1 31), σ2) ∧ frM (fun k => k = 46) (fun a => a = 32) σ1 σ2
theorem ML.of {σ σ' : bS} {k : Nat} {o : Option ((Nat → Int32) → Int32)} (h : ML σ k o) (h7 : σ'.2.1 7 = σ.2.1 7) (h8 : σ'.2.1 8 = σ.2.1 8) (h9 : σ'.2.1 9 = σ.2.1 9) (h10 : σ'.2.1 10 = σ.2.1 10) (h11 : σ'.2.1 11 = σ.2.1 11) : ML σ' k o := by
  cases o with
  | none => exact (congrFun h9 k).trans h
  | some f => exact ⟨fun z => h.1 ((congrFun h9 k).symm.trans z), fun n z σ1 hn a b c d e => h.2 n z σ1 hn (a.trans (eqH.of h7)) (b.trans (eqH.of h8)) (c.trans (eqH.of h9)) (d.trans (eqH.of h10)) (e.trans (eqH.of h11))⟩
/-- which laws a text has -/
def isLaw (T : aT) (k : Nat) : Prop := k < tM T ∨ (7 ≤ k ∧ k < 7 + tG T) ∨ k = 11 ∨ k = 12 ∨ k = 13
/-- a text is as told -/
def InvT (T : aT) (L : aL) : Prop := tB T ≤ 6 ∧ tP T ≤ 10 ∧ tG T ≤ 4 ∧ tM T ≤ 7 ∧ (∀ b, b < tG T → tFoot T b < tB T) ∧ (∀ m, m < tM T → tHome T m < tB T) ∧ (tDawn T = -1 ∨ ∃ d, d < 24 ∧ tDawn T = nI d) ∧ (∃ p, p ≤ 100 ∧ tPil T = nI p) ∧ (∀ a b, tWalk T a b ≤ 9) ∧ (∀ a, tWalk T a a = 0) ∧ ∀ k f, L k = some f → ∀ v v' : Nat → Int32, (∀ j, j < 8 → v j = v' j) → f v = f v'
/-- the class's told (1 .. 13) holds the text -/
def CT (T : aT) (L : aL) (σ : bS) : Prop := (σ.1 1 0 = nI (tB T) ∧ σ.1 1 1 = nI (tP T) ∧ σ.1 1 2 = nI (tG T) ∧ σ.1 1 3 = nI (tM T)) ∧ (σ.1 1 15 = tDawn T ∧ σ.1 1 16 = tPil T ∧ σ.1 1 17 = tHire T ∧ σ.1 1 18 = tSeed T) ∧ (∀ b, b < tG T → σ.2.1 3 b = nI (tFoot T b)) ∧ (∀ m, m < tM T → σ.2.1 6 m = nI (tHome T m)) ∧ (∀ a b, a < 6 → b < 6 → σ.2.1 2 (6 * a + b) = nI (tWalk T a b)) ∧
  (∀ m, m < tM T → CL σ (σ.2.1 8 m) (L m)) ∧ (∀ b, b < tG T → CL σ (σ.2.1 9 b) (L (7 + b))) ∧ CL σ (σ.1 1 12) (L 11) ∧ CL σ (σ.1 1 13) (L 12) ∧ CL σ (σ.1 1 14) (L 13)
/-- cells of the class that no call but read() changes: told, and the law's steps -/
def isTold (a : Nat) : Prop := (1 ≤ a ∧ a ≤ 11) ∧ True
theorem CT.of {T : aT} {L : aL} {σ σ' : bS} (h : CT T L σ) (h1 : ∀ a, 1 ≤ a → a ≤ 11 → σ'.1 a = σ.1 a ∧ σ'.2.1 a = σ.2.1 a) : CT T L σ' := by
  obtain ⟨⟨a1, a2, a3, a4⟩, ⟨b1, b2, b3, b4⟩, c1, c2, c3, d1, d2, d3, d4, d5⟩ := h
  have e1 := (h1 1 (by omega) (by omega)).1
  have e11 := (h1 11 (by omega) (by omega)).2
  have e10 : σ'.1 10 3 = σ.1 10 3 := by rw [(h1 10 (by omega) (by omega)).1]
  refine ⟨⟨?_, ?_, ?_, ?_⟩, ⟨?_, ?_, ?_, ?_⟩, fun b hb => ?_, fun m hm => ?_, fun a b ha hb => ?_, fun m hm => ?_, fun b hb => ?_, ?_, ?_, ?_⟩
  all_goals first | rw [e1]; assumption | skip
  · rw [(h1 3 (by omega) (by omega)).2]; exact c1 b hb
  · rw [(h1 6 (by omega) (by omega)).2]; exact c2 m hm
  · rw [(h1 2 (by omega) (by omega)).2]; exact c3 a b ha hb
  · rw [(h1 8 (by omega) (by omega)).2]; exact (d1 m hm).of e11 e10
  · rw [(h1 9 (by omega) (by omega)).2]; exact (d2 b hb).of e11 e10
  · rw [e1]; exact d3.of e11 e10
  · rw [e1]; exact d4.of e11 e10
  · rw [e1]; exact d5.of e11 e10
/-- the reference's text -/
def MTx (T : aT) (L : aL) (σ : bS) : Prop := (σ.2.1 12 0 = nI (tB T) ∧ σ.2.1 13 0 = nI (tP T) ∧ σ.2.1 17 0 = nI (tG T) ∧ σ.2.1 20 0 = nI (tM T)) ∧ (σ.2.1 24 0 = md (tDawn T) ∧ σ.2.1 24 1 = tPil T ∧ σ.2.1 24 2 = tHire T ∧ σ.2.1 24 3 = tSeed T) ∧ (∀ b, b < tG T → σ.2.1 18 b = nI (tFoot T b)) ∧ (∀ m, m < tM T → σ.2.1 22 m = nI (tHome T m)) ∧
  (∀ (a b n : Nat) (σ1 : bS), a < tB T → b < tB T → 20 ≤ n → eqH 1 (σ1.2.1 13) (σ.2.1 13) → eqH 10 (σ1.2.1 14) (σ.2.1 14) → eqH 10 (σ1.2.1 15) (σ.2.1 15) → eqH 10 (σ1.2.1 16) (σ.2.1 16) → m_pathOf n (nI a) (nI b) σ1 = some (nI (tWalk T a b), σ1)) ∧ ∀ k, isLaw T k → ML σ k (L k)
theorem MTx.of {T : aT} {L : aL} {σ σ' : bS} (h : MTx T L σ) (h1 : ∀ a, 7 ≤ a → a ≤ 24 → σ'.2.1 a = σ.2.1 a) : MTx T L σ' := by
  obtain ⟨⟨a1, a2, a3, a4⟩, ⟨b1, b2, b3, b4⟩, c1, c2, c3, d1⟩ := h
  have e := fun a h2 h3 => h1 a h2 h3
  refine ⟨⟨?_, ?_, ?_, ?_⟩, ⟨?_, ?_, ?_, ?_⟩, fun b hb => ?_, fun m hm => ?_, fun a b n σ1 ha hb hn f1 f2 f3 f4 => ?_, fun k hk => ?_⟩
  · rw [e 12 (by omega) (by omega)]; exact a1
  · rw [e 13 (by omega) (by omega)]; exact a2
  · rw [e 17 (by omega) (by omega)]; exact a3
  · rw [e 20 (by omega) (by omega)]; exact a4
  · rw [e 24 (by omega) (by omega)]; exact b1
  · rw [e 24 (by omega) (by omega)]; exact b2
  · rw [e 24 (by omega) (by omega)]; exact b3
  · rw [e 24 (by omega) (by omega)]; exact b4
  · rw [e 18 (by omega) (by omega)]; exact c1 b hb
  · rw [e 22 (by omega) (by omega)]; exact c2 m hm
  · exact c3 a b n σ1 ha hb hn (f1.trans (eqH.of (e 13 (by omega) (by omega)))) (f2.trans (eqH.of (e 14 (by omega) (by omega)))) (f3.trans (eqH.of (e 15 (by omega) (by omega)))) (f4.trans (eqH.of (e 16 (by omega) (by omega))))
  · exact (d1 k hk).of (e 7 (by omega) (by omega)) (e 8 (by omega) (by omega)) (e 9 (by omega) (by omega)) (e 10 (by omega) (by omega)) (e 11 (by omega) (by omega))
/-- a Going of the class (27: real, 35: dream) holds G -/
def CG (g : Nat) (G : aG) (σ : bS) : Prop := (σ.1 g 2 = G 0 0 ∧ σ.1 g 3 = G 1 0 ∧ σ.1 g 4 = G 2 0 ∧ σ.1 g 1 = G 10 0) ∧ (∀ b, b < 4 → σ.2.1 (g + 1) b = G 3 b ∧ σ.2.1 (g + 2) b = G 4 b) ∧ ∀ m, m < 7 → σ.2.1 (g + 3) m = G 5 m ∧ σ.2.1 (g + 4) m = G 6 m ∧ σ.2.1 (g + 5) m = G 7 m ∧ σ.2.1 (g + 6) m = G 8 m ∧ σ.2.1 (g + 7) m = G 9 m
theorem CG.of {g : Nat} {G : aG} {σ σ' : bS} (h : CG g G σ) (h1 : ∀ a, g ≤ a → a ≤ g + 7 → σ'.1 a = σ.1 a ∧ σ'.2.1 a = σ.2.1 a) : CG g G σ' := by
  obtain ⟨⟨a1, a2, a3, a4⟩, b, c⟩ := h
  have e := (h1 g (by omega) (by omega)).1
  refine ⟨⟨by rw [e]; exact a1, by rw [e]; exact a2, by rw [e]; exact a3, by rw [e]; exact a4⟩, fun j hj => ?_, fun m hm => ?_⟩
  · rw [(h1 (g + 1) (by omega) (by omega)).2, (h1 (g + 2) (by omega) (by omega)).2]; exact b j hj
  · rw [(h1 (g + 3) (by omega) (by omega)).2, (h1 (g + 4) (by omega) (by omega)).2, (h1 (g + 5) (by omega) (by omega)).2, (h1 (g + 6) (by omega) (by omega)).2, (h1 (g + 7) (by omega) (by omega)).2]; exact c m hm
/-- the reference's row from w on holds G -/
def MG (T : aT) (w : Nat) (G : aG) (σ : bS) : Prop := (σ.2.1 29 w = G 0 0 ∧ σ.2.1 29 (w + 40) = G 1 0 ∧ σ.2.1 29 (w + 41) = G 2 0 ∧ σ.2.1 29 (w + 46) = G 10 0) ∧ (∀ b, b < tG T → σ.2.1 29 (w + 1 + b) = md (G 3 b) ∧ σ.2.1 29 (w + 42 + b) = G 4 b) ∧ ∀ m, m < tM T → σ.2.1 29 (w + 5 + m) = md (G 5 m) ∧ σ.2.1 29 (w + 12 + m) = md (G 6 m) ∧ σ.2.1 29 (w + 19 + m) = G 7 m ∧ σ.2.1 29 (w + 26 + m) = G 8 m ∧ σ.2.1 29 (w + 33 + m) = G 9 m
theorem MG.of {T : aT} {w : Nat} {G : aG} {σ σ' : bS} (hT : tG T ≤ 4 ∧ tM T ≤ 7) (h : MG T w G σ) (h1 : ∀ j, w ≤ j → j < w + 48 → σ'.2.1 29 j = σ.2.1 29 j) : MG T w G σ' := by
  obtain ⟨⟨a1, a2, a3, a4⟩, b, c⟩ := h
  refine ⟨⟨?_, ?_, ?_, ?_⟩, fun j hj => ?_, fun m hm => ?_⟩
  · rw [h1 _ (by omega) (by omega)]; exact a1
  · rw [h1 _ (by omega) (by omega)]; exact a2
  · rw [h1 _ (by omega) (by omega)]; exact a3
  · rw [h1 _ (by omega) (by omega)]; exact a4
  · rw [h1 (w + 1 + j) (by omega) (by omega), h1 (w + 42 + j) (by omega) (by omega)]; exact b j hj
  · rw [h1 (w + 5 + m) (by omega) (by omega), h1 (w + 12 + m) (by omega) (by omega), h1 (w + 19 + m) (by omega) (by omega), h1 (w + 26 + m) (by omega) (by omega), h1 (w + 33 + m) (by omega) (by omega)]; exact c m hm
/-- a number that names one of n, or -1 -/
def orN (n : Nat) (x : Int32) : Prop := x = -1 ∨ ∃ j, j < n ∧ x = nI j
/-- what holds of a going: hours, LASTs, where everybody is -/
def InvG (T : aT) (i : Nat) (G : aG) : Prop := (∃ h, h ≤ 34 * i ∧ G 0 0 = nI h) ∧ (∀ b, b < tG T → orN (tB T) (G 3 b)) ∧ ∀ m, m < tM T → (G 6 m = -1 ∧ ∃ j, j < tB T ∧ G 5 m = nI j) ∨ (G 5 m = -1 ∧ ∃ j, j < tG T ∧ G 6 m = nI j)
/-- what the class's shelf holds at its p-th place -/
def CSh (p : Nat) (G : aG) (σ : bS) : Prop := (σ.2.1 55 (46 * p) = G 0 0 ∧ σ.2.1 55 (46 * p + 1) = G 1 0 ∧ σ.2.1 55 (46 * p + 2) = G 2 0) ∧ (∀ b, b < 4 → σ.2.1 55 (46 * p + 3 + b) = G 3 b ∧ σ.2.1 55 (46 * p + 7 + b) = G 4 b) ∧ ∀ m, m < 7 → σ.2.1 55 (46 * p + 11 + m) = G 5 m ∧ σ.2.1 55 (46 * p + 18 + m) = G 6 m ∧ σ.2.1 55 (46 * p + 25 + m) = G 7 m ∧ σ.2.1 55 (46 * p + 32 + m) = G 8 m ∧ σ.2.1 55 (46 * p + 39 + m) = G 9 m
def RTape (σC σM : bS) : Prop := ∃ (t : Nat) (by_ : Nat → Nat), t ≤ 2000 ∧ (∀ j, by_ j < 256) ∧ σC.1 0 1 = nI t ∧ σM.1 0 0 = nI t ∧ ∀ j, j < t → σM.2.1 1 j = nI (by_ j) ∧ σC.2.1 43 j = (nI (by_ j)).toInt8.toInt32
def RSeen (T : aT) (σC σM : bS) : Prop := (∃ c, c ≤ 12 ∧ σC.1 77 4 = nI c ∧ σM.1 0 62 = nI c ∧ ∀ j, j < c → (∃ m, m < tM T ∧ σC.2.1 78 j = nI m ∧ σM.2.1 44 j = nI m) ∧ ∃ k, k < tB T ∧ σC.2.1 79 j = nI k ∧ σM.2.1 45 j = nI k) ∧ ∀ m, m < 7 → σC.2.1 81 m = σM.2.1 46 m ∧ (σC.2.1 81 m = -1 ∨ (m < tM T ∧ ∃ k, k < tB T ∧ σC.2.1 81 m = nI k))
/-- a place of the shelf holds alike on both sides (the reference's row from w on) -/
def RHeld (T : aT) (i p w : Nat) (σC σM : bS) : Prop := ∃ G, CSh p G σC ∧ MG T w G σM ∧ InvG T i G ∧ G 10 0 = tSeed T
def RShelf (T : aT) (i : Nat) (σC σM : bS) : Prop := (∃ u h, u < 40 ∧ h ≤ 40 ∧ σC.1 54 1 = nI u ∧ σM.1 0 42 = nI u ∧ σC.1 54 2 = nI h ∧ σM.1 0 41 = nI h ∧ ∀ j, j < h → RHeld T i ((u + 39 - j) % 40) (288 + 48 * ((u + 39 - j) % 40)) σC σM) ∧ ∃ hd : Nat → Bool, σC.1 54 3 = bitsOf (fun k => hd k = true) 3 ∧ ∀ k, k < 3 → σM.2.1 30 k = (if hd k = true then 1 else 0) ∧ (hd k = true → RHeld T i (40 + k) (144 + 48 * k) σC σM)
def Rel (i : Nat) (σC σM : bS) : Prop := ∃ (T : aT) (L : aL) (G : aG), InvT T L ∧ CT T L σC ∧ MTx T L σM ∧ CG 27 G σC ∧ MG T 0 G σM ∧ InvG T i G ∧ G 10 0 = tSeed T ∧ RTape σC σM ∧ σC.1 0 2 = σM.1 0 9 ∧ σC.2.2 50 = tkW ∧ RShelf T i σC σM ∧ RSeen T σC σM
