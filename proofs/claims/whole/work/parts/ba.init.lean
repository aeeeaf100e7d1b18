/-! a new object -/
theorem rel_init : ∃ (nT nS n : Nat) (σT σS σ1 σ2 σ3 : bS), cTold_clear_s nT σz = some σT ∧ cSeen_clear nS σz = some σS ∧ m_clears n σm0 = some σ1 ∧ m_lays n σ1 = some σ2 ∧ m_begins n σ2 = some σ3 ∧ Rel 0 (σC0 σT σS) σ3 := by
  obtain ⟨n, hn⟩ : ∃ n : Nat, 1000 ≤ n := ⟨1000, Nat.le_refl _⟩
  obtain ⟨σT, c1, c2, ⟨c30, c31, c32, c33⟩, ⟨c4, c5, c6, c7, c8, c9, c10⟩, c11, c12, c13, c14⟩ := c_clear (n := n) (by omega) σz
  obtain ⟨σS, s1, s2, s3, s4⟩ := c_sclear (n := n) (by omega) σz
  obtain ⟨σ1, d1, d2, d3, d4, ⟨d5, d6, d7, d8⟩, ⟨d9, d10, d11, d12⟩, d13⟩ := m_clear0 (n := n) (by omega) σm0
  obtain ⟨σ2, σ3, l1, l2, l3, l4, l5, l6, l7, l8, l9⟩ := m_new (n := n) (G := 0) (M := 0) (σ := σ1) (by omega) (by omega) (by omega) d7 d8
  have r7 : ∀ k, ¬ (k = 40 ∨ k = 41 ∨ k = 62) → σ3.1 0 k = (uI (uI σm0 0 7 ci_0) 0 31 ci_0).1 0 k := fun k z1 => by
    rw [l4, if_neg z1, d3]
  have hQ : Cnt [] 0 0 0 0 σT σ1 := ⟨⟨rfl, fun i hi => (by cases hi)⟩, ⟨by omega, by omega, by omega, by omega⟩, ⟨c30, c31, c32, c33⟩, ⟨d5, d6, d7, d8⟩⟩
  have hPC : PC 0 0 0 0 0 0 σT σ1 := by
    refine ⟨⟨[], rfl, fun q hq => (by cases hq), fun j hj => by omega, fun x y hx hy => c12 _ (by omega)⟩, fun b hb => by omega, fun m hm => by omega, ⟨⟨Or.inl c7, ?_⟩, ⟨0, by omega, c8, d10⟩, ?_, ?_⟩, fun k hk => Or.inl ⟨?_, d13 k hk⟩⟩
    · rw [c7, d9]; decide
    · rw [c9, d11]
    · rw [c10, d12]
    · unfold cellL
      split
      · exact c13 k (by omega)
      split
      · exact c14 _ (by omega)
      · have : k = 11 ∨ k = 12 ∨ k = 13 := by omega
        rcases this with rfl | rfl | rfl
        · exact c4
        · exact c5
        · exact c6
  refine ⟨n, n, n, σT, σS, σ1, σ2, σ3, c1, s1, d1, l1, l2, rel_new hQ hPC (by omega) (by omega) c11 (fun j => rfl) rfl (fun b hb1 hb2 => ?_) l3 ⟨rfl, rfl, rfl, ?_⟩ (fun b hb => by omega) (fun m hm => by omega) l5 l6 l7 ⟨rfl, ?_⟩ ?_ rfl ⟨0, by omega, rfl, ?_⟩ ⟨rfl, ?_, rfl⟩ l9 ⟨s3, ?_⟩ s4 l8⟩
  · have : b = 2 ∨ b = 3 ∨ b = 4 ∨ b = 5 ∨ b = 6 ∨ b = 7 ∨ b = 8 ∨ b = 9 ∨ b = 10 ∨ b = 11 := by omega
    rcases this with rfl | rfl | rfl | rfl | rfl | rfl | rfl | rfl | rfl | rfl <;> rfl
  · rw [c10]; rfl
  · rw [r7 0 (by omega)]; rfl
  · rw [r7 9 (by omega)]; rfl
  · rw [r7 42 (by omega)]; rfl
  · rw [l4, if_pos (by omega)]
  · rw [l4, if_pos (by omega)]
theorem sim_all : SimAll Rel := fun i σC σM hi h => by
  have hi : i ≤ 3072 := by omega
  exact ⟨h.mono (by omega), sim_feed h, sim_back h, sim_read h, sim_place h, sim_bank h, sim_bridge h, sim_man h, sim_wish hi h, sim_toll hi h, sim_cross hi h, sim_pair hi h, sim_hire hi h, sim_walk hi h, sim_hours hi h, sim_rule hi h, sim_undo h, sim_homes h, sim_where hi h, sim_last hi h, sim_coins hi h, sim_homeBy hi h, sim_allHome hi h, sim_odds hi h, sim_waiting hi h, sim_follow hi h, sim_way h, sim_reach h, sim_orders hi h, sim_orderAt hi h, sim_wishers hi h, sim_wisherAt hi h, sim_rings hi h, sim_gain hi h, sim_worth hi h, sim_rests hi h, fun x y v _ => sim_best hi h x y v, sim_prices hi h, sim_see h, sim_say h, sim_forget h, sim_fits h, sim_sure h, sim_trust h, sim_hold h, sim_restore h, sim_count h⟩
