/-! WAYS: spots (16 times the bank, and which bridges were crossed), edges, walks -/
def Ed (T : aT) (ll : Nat → Nat) (u v h c : Nat) : Prop := (∃ to, to < tB T ∧ 0 < tWalk T (u / 16) to ∧ v = 16 * to + u % 16 ∧ h = tWalk T (u / 16) to ∧ c = 0) ∨ (∃ g to, g < tG T ∧ to < tB T ∧ tFoot T g = u / 16 ∧ ((ll g = to + 1 ∧ (u % 16).testBit g = false) ∨ ((u % 16).testBit g = true ∧ ¬ ll g = 0)) ∧ v = 16 * to + (u % 16 ||| 2 ^ g) ∧ h = 1 ∧ c = 1)
theorem or16 {s g : Nat} (hs : s < 16) (hg : g < 4) : s ||| 2 ^ g < 16 := Nat.or_lt_two_pow (n := 4) hs (Nat.pow_lt_pow_right (by decide) hg)
theorem Ed.bd {T : aT} {L : aL} {ll : Nat → Nat} {u v h c : Nat} (hI : InvT T L) (e : Ed T ll u v h c) : 1 ≤ h ∧ h ≤ 9 ∧ c ≤ 1 ∧ v < 96 ∧ v / 16 < tB T := by
  have hB := hI.1
  have hG := hI.2.2.1
  rcases e with ⟨to, a, b, rfl, rfl, rfl⟩ | ⟨g, to, a, b, c', d, rfl, rfl, rfl⟩
  · have := hI.2.2.2.2.2.2.2.2.1 (u / 16) to
    omega
  · have := or16 (s := u % 16) (g := g) (by omega) (by omega)
    omega
/-- a walk of k edges from s0, of H hours and C crossings -/
def Wk (T : aT) (ll : Nat → Nat) (s0 : Nat) : Nat → Nat → Nat → Nat → Prop
  | 0, v, H, C => v = s0 ∧ H = 0 ∧ C = 0
  | k + 1, v, H, C => ∃ u h c H1 C1, Wk T ll s0 k u H1 C1 ∧ Ed T ll u v h c ∧ H = H1 + h ∧ C = C1 + c
theorem Wk.bd {T : aT} {L : aL} {ll : Nat → Nat} {s0 : Nat} (hI : InvT T L) (h0 : s0 < 96) : ∀ {k v H C}, Wk T ll s0 k v H C → H ≤ 9 * k ∧ C ≤ k ∧ v < 96
  | 0, v, H, C, ⟨a, b, c⟩ => by omega
  | k + 1, v, H, C, ⟨u, h, c, H1, C1, a, e, b1, b2⟩ => by
    have ih := Wk.bd hI h0 a
    have := e.bd hI
    omega
/-- costs that no edge can make less are at most those of any walk -/
theorem Wk.le {T : aT} {L : aL} {ll : Nat → Nat} {s0 x far : Nat} {K : Nat → Nat} (hI : InvT T L) (h0 : s0 < 96) (hx : 0 < x) (k0 : K s0 = 0) (clo : ∀ u v h c, u < 96 → K u < far → Ed T ll u v h c → K v ≤ K u + x * h + c) : ∀ {k v H C}, Wk T ll s0 k v H C → x * H + C < far → K v ≤ x * H + C
  | 0, v, H, C, ⟨a, b, c⟩, _ => by
    subst a b c
    rw [k0]
    omega
  | k + 1, v, H, C, ⟨u, h, c, H1, C1, a, e, b1, b2⟩, l => by
    have hb := (Wk.bd hI h0 a).2.2
    have e1 : x * H = x * H1 + x * h := by rw [b1, Nat.mul_add]
    have ih := Wk.le hI h0 hx k0 clo a (by omega)
    have := clo u v h c hb (by omega) e
    omega
/-- the two ways of reckoning agree -/
theorem two_ways {H C H' C' : Nat} (h1 : 1000 * H' + C' ≤ 1000 * H + C) (h2 : 1024 * H + C ≤ 1024 * H' + C') (hC : C < 1000) : H = H' ∧ C = C' := by
  have : H = H' := by
    by_cases z : H < H'
    · omega
    · by_cases y : H' < H
      · omega
      · omega
  omega
/-! nearest first: what holds while spots are settled -/
abbrev FRC : Nat := 1073741824
def DI (T : aT) (ll : Nat → Nat) (s0 n : Nat) (K : Nat → Nat) (Z : Nat → Bool) : Prop := K s0 = 0 ∧ (∀ a, a < 96 → K a ≤ FRC) ∧ (∀ a, a < 96 → K a < FRC → ∃ k H C, k ≤ n ∧ Wk T ll s0 k a H C ∧ K a = 1024 * H + C) ∧ (∀ u, u < 96 → Z u = true → ∀ v h c, Ed T ll u v h c → K v ≤ K u + 1024 * h + c) ∧ (∀ u v, u < 96 → v < 96 → Z u = true → Z v = false → K u ≤ K v) ∧ sm (fun a => if Z a = true then 1 else 0) 96 = n ∧ ∀ u, u < 96 → Z u = true → K u < FRC
/-- what going on from x does to the costs -/
def Rlx (T : aT) (ll : Nat → Nat) (x w : Nat) (K K' : Nat → Nat) : Prop := (∀ v, v < 96 → K' v ≤ K v) ∧ (∀ v, v < 96 → K' v = K v ∨ ∃ h c, Ed T ll x v h c ∧ K' v = K x + w * h + c) ∧ ∀ v h c, Ed T ll x v h c → K' v ≤ K x + w * h + c
theorem Rlx.self {T : aT} {L : aL} {ll : Nat → Nat} {x w : Nat} {K K' : Nat → Nat} (hI : InvT T L) (hw : 0 < w) (hx : x < 96) (R : Rlx T ll x w K K') : K' x = K x := by
  rcases R.2.1 x hx with e | ⟨h, c, e, q⟩
  · exact e
  · have := R.1 x hx
    have := (e.bd hI).1
    have : w * 1 ≤ w * h := Nat.mul_le_mul_left w this
    omega
theorem DI.step {T : aT} {L : aL} {ll : Nat → Nat} {s0 n x : Nat} {K K' : Nat → Nat} {Z : Nat → Bool} (hI : InvT T L) (h0 : s0 < 96) (hn : n ≤ 96) (D : DI T ll s0 n K Z) (hx : x < 96) (zx : Z x = false) (kx : K x < FRC) (mx : ∀ v, v < 96 → Z v = false → K x ≤ K v) (R : Rlx T ll x 1024 K K') : DI T ll s0 (n + 1) K' (fun a => if a = x then true else Z a) := by
  obtain ⟨d1, d2, d3, d4, d5, d6, d7⟩ := D
  have sx := R.self hI (by decide) hx
  have ge : ∀ v, v < 96 → K' v = K v ∨ (K x ≤ K' v ∧ K' v ≤ K v) := fun v hv => by
    rcases R.2.1 v hv with e | ⟨h, c, e, q⟩
    · exact Or.inl e
    · have := R.1 v hv
      exact Or.inr ⟨by omega, this⟩
  have st : ∀ u, u < 96 → Z u = true → K' u = K u := fun u hu zu => by
    rcases ge u hu with e | ⟨a, b⟩
    · exact e
    · have := d5 u x hu hx zu zx
      omega
  refine ⟨?_, fun a ha => ?_, fun a ha ka => ?_, fun u hu zu v h c e => ?_, fun u v hu hv zu zv => ?_, ?_, fun u hu zu => ?_⟩
  · have := R.1 s0 h0
    omega
  · have := R.1 a ha
    have := d2 a ha
    omega
  · rcases R.2.1 a ha with e | ⟨h, c, e, q⟩
    · obtain ⟨k, H, C, h1, h2, h3⟩ := d3 a ha (by omega)
      exact ⟨k, H, C, by omega, h2, by omega⟩
    · obtain ⟨k, H, C, h1, h2, h3⟩ := d3 x hx kx
      refine ⟨k + 1, H + h, C + c, by omega, ⟨x, h, c, H, C, h2, e, rfl, rfl⟩, ?_⟩
      rw [q, h3, Nat.mul_add]
      omega
  · have hv := (e.bd hI).2.2.2.1
    by_cases z : u = x
    · subst z
      rw [sx]
      exact R.2.2 v h c e
    · have zu : Z u = true := by
        have zu : (if u = x then true else Z u) = true := zu
        rwa [if_neg z] at zu
      have := d4 u hu zu v h c e
      have := R.1 v hv
      rw [st u hu zu]
      omega
  · have zv : (if v = x then true else Z v) = false := zv
    have vx : ¬ v = x := fun q => by
      rw [if_pos q] at zv
      cases zv
    rw [if_neg vx] at zv
    have lo : K x ≤ K' v := by
      rcases ge v hv with e | ⟨a, b⟩
      · rw [e]
        exact mx v hv zv
      · exact a
    by_cases z : u = x
    · subst z
      rw [sx]
      exact lo
    · have zu : Z u = true := by
        have zu : (if u = x then true else Z u) = true := zu
        rwa [if_neg z] at zu
      have := d5 u x hu hx zu zx
      rw [st u hu zu]
      omega
  · rw [← d6]
    refine sm_upd (l0 := x) 96 hx (fun k hk e => ?_) ?_
    · show (if Z k = true then 1 else 0) = (if (if k = x then true else Z k) = true then 1 else 0)
      rw [if_neg e]
    · show (if (if x = x then true else Z x) = true then 1 else 0) = (if Z x = true then 1 else 0) + 1
      rw [if_pos rfl, zx]
      rfl
  · by_cases z : u = x
    · subst z
      omega
    · have zu : (if u = x then true else Z u) = true := zu
      rw [if_neg z] at zu
      rw [st u hu zu]
      exact d7 u hu zu
theorem sm_full {f : Nat → Nat} : ∀ n, (∀ k, k < n → f k ≤ 1) → sm f n = n → ∀ k, k < n → f k = 1
  | 0, _, _, k, hk => by omega
  | n + 1, h, e, k, hk => by
    have h1 := h n (by omega)
    have h2 : sm f n ≤ 1 * n := sm_le n (fun k hk => h k (by omega))
    rw [sm] at e
    by_cases z : k = n
    · subst z
      omega
    · exact sm_full n (fun k hk => h k (by omega)) (by omega) k (by omega)
/-- the end: every spot that is reached is settled -/
theorem DI.full {T : aT} {ll : Nat → Nat} {s0 : Nat} {K : Nat → Nat} {Z : Nat → Bool} (D : DI T ll s0 96 K Z) : ∀ u, u < 96 → Z u = true := fun u hu => by
  have := sm_full (f := fun a => if Z a = true then 1 else 0) 96 (fun k _ => by
    show (if Z k = true then 1 else 0) ≤ 1
    split <;> omega) D.2.2.2.2.2.1 u hu
  by_cases z : Z u = true
  · exact z
  · have this : (if Z u = true then 1 else 0) = 1 := this
    rw [if_neg z] at this
    omega
/-- what both sides need of the class's costs -/
def KC (T : aT) (ll : Nat → Nat) (s0 : Nat) (K : Nat → Nat) : Prop := K s0 = 0 ∧ (∀ a, a < 96 → K a ≤ FRC) ∧ (∀ a, a < 96 → K a < FRC → ∃ k H C, k ≤ 96 ∧ Wk T ll s0 k a H C ∧ K a = 1024 * H + C) ∧ ∀ u v h c, u < 96 → K u < FRC → Ed T ll u v h c → K v ≤ K u + 1024 * h + c
theorem DI.kc {T : aT} {ll : Nat → Nat} {s0 n : Nat} {K : Nat → Nat} {Z : Nat → Bool} (D : DI T ll s0 n K Z) (hn : n ≤ 96) (h : ∀ u, u < 96 → K u < FRC → Z u = true) : KC T ll s0 K := by
  obtain ⟨d1, d2, d3, d4, d5, d6, d7⟩ := D
  refine ⟨d1, d2, fun a ha ka => ?_, fun u v h' c hu ku e => d4 u hu (h u hu ku) v h' c e⟩
  obtain ⟨k, H, C, h1, h2, h3⟩ := d3 a ha ka
  exact ⟨k, H, C, by omega, h2, h3⟩
/-- and of the reference's -/
def KM (T : aT) (ll : Nat → Nat) (s0 : Nat) (F : Nat → Nat) : Prop := F s0 = 0 ∧ (∀ a, a < 96 → F a ≤ 1000000) ∧ (∀ a, a < 96 → F a < 1000000 → ∃ k H C, Wk T ll s0 k a H C ∧ F a = 1000 * H + C) ∧ ∀ u v h c, u < 96 → F u < 1000000 → Ed T ll u v h c → F v ≤ F u + 1000 * h + c
/-- the least over the sets of bridges -/
def lsS (K : Nat → Nat) (far bk : Nat) : Nat → Nat
  | 0 => far
  | j + 1 => if K (16 * bk + j) < lsS K far bk j then K (16 * bk + j) else lsS K far bk j
theorem lsS_le (K : Nat → Nat) (far bk : Nat) : ∀ j i, i < j → lsS K far bk j ≤ K (16 * bk + i)
  | 0, i, h => by omega
  | j + 1, i, h => by
    rw [lsS]
    by_cases z : i = j
    · subst z
      split <;> omega
    · have := lsS_le K far bk j i (by omega)
      split <;> omega
theorem lsS_far (K : Nat → Nat) (far bk : Nat) : ∀ j, lsS K far bk j ≤ far
  | 0 => Nat.le_refl _
  | j + 1 => by
    have := lsS_far K far bk j
    rw [lsS]
    split <;> omega
theorem lsS_is (K : Nat → Nat) (far bk : Nat) : ∀ j, lsS K far bk j < far → ∃ i, i < j ∧ lsS K far bk j = K (16 * bk + i)
  | 0, h => absurd h (Nat.lt_irrefl _)
  | j + 1, h => by
    rw [lsS] at h ⊢
    by_cases z : K (16 * bk + j) < lsS K far bk j
    · rw [if_pos z]
      exact ⟨j, by omega, rfl⟩
    · rw [if_neg z] at h ⊢
      obtain ⟨i, h1, h2⟩ := lsS_is K far bk j h
      exact ⟨i, by omega, h2⟩
theorem ways_alike {T : aT} {L : aL} {ll : Nat → Nat} {s0 bk : Nat} {K F : Nat → Nat} (hI : InvT T L) (h0 : s0 < 96) (hb : bk < 6) (hK : KC T ll s0 K) (hF : KM T ll s0 F) : (lsS K FRC bk 16 = FRC ∧ lsS F 1000000 bk 16 = 1000000) ∨ ∃ H C, H ≤ 864 ∧ C ≤ 96 ∧ lsS K FRC bk 16 = 1024 * H + C ∧ lsS F 1000000 bk 16 = 1000 * H + C := by
  have fr : FRC = 1073741824 := rfl
  have a1 := lsS_far K FRC bk 16
  have a2 := lsS_far F 1000000 bk 16
  by_cases z : lsS K FRC bk 16 < FRC
  · right
    obtain ⟨i, hi, ei⟩ := lsS_is K FRC bk 16 z
    obtain ⟨k, H, C, k1, k2, k3⟩ := hK.2.2.1 (16 * bk + i) (by omega) (by omega)
    have bd := Wk.bd hI h0 k2
    have fl := Wk.le (x := 1000) hI h0 (by decide) hF.1 hF.2.2.2 k2 (by omega)
    have fl2 := lsS_le F 1000000 bk 16 i hi
    obtain ⟨i', hi', ei'⟩ := lsS_is F 1000000 bk 16 (by omega)
    obtain ⟨k', H', C', k2', k3'⟩ := hF.2.2.1 (16 * bk + i') (by omega) (by omega)
    have kl := Wk.le (x := 1024) (far := FRC) hI h0 (by decide) hK.1 hK.2.2.2 k2' (by omega)
    have kl2 := lsS_le K FRC bk 16 i' hi'
    obtain ⟨e1, e2⟩ := two_ways (H := H) (C := C) (H' := H') (C' := C') (by omega) (by omega) (by omega)
    exact ⟨H, C, by omega, by omega, by omega, by omega⟩
  · left
    refine ⟨by omega, ?_⟩
    by_cases y : lsS F 1000000 bk 16 < 1000000
    · obtain ⟨i', hi', ei'⟩ := lsS_is F 1000000 bk 16 y
      obtain ⟨k', H', C', k2', k3'⟩ := hF.2.2.1 (16 * bk + i') (by omega) (by omega)
      have kl := Wk.le (x := 1024) (far := FRC) hI h0 (by decide) hK.1 hK.2.2.2 k2' (by omega)
      have kl2 := lsS_le K FRC bk 16 i' hi'
      omega
    · omega
