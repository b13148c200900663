/-! ALL CALLS: it begins -/
theorem iv_0 {p i : Nat} (h : p ≠ 4 ∧ p ≠ 20 ∧ p ≠ 36 ∧ p ≠ 52 ∧ p ≠ 150) : rn_iv p i = 0 := by
  unfold rn_iv
  rw [if_neg (by omega), if_neg (by omega)]
theorem szA : ∀ s, s < 4 → 3 ≤ (rn_SH.getD (107 + 2 * s) (0, 0, [])).2.1 ∧ 24 ≤ (rn_SH.getD (107 + 2 * s + 1) (0, 0, [])).2.1 := by decide +kernel
theorem szB : 4 ≤ (rn_SH.getD 150 (0, 0, [])).2.1 ∧ 4 ≤ (rn_SH.getD 151 (0, 0, [])).2.1 ∧ 96 ≤ (rn_SH.getD 152 (0, 0, [])).2.1 ∧ 101 ≤ (rn_SH.getD 116 (0, 0, [])).2.1 ∧ 47 ≤ (rn_SH.getD 115 (0, 0, [])).2.1 ∧ 9 ≤ (rn_SH.getD 0 (0, 0, [])).2.1 ∧ 3 ≤ (rn_SH.getD 1 (0, 0, [])).2.1 ∧ 1 ≤ (rn_SH.getD 4 (0, 0, [])).2.1 ∧ 1 ≤ (rn_SH.getD 5 (0, 0, [])).2.1 ∧ 1 ≤ (rn_SH.getD 9 (0, 0, [])).2.1 ∧ 1 ≤ (rn_SH.getD 14 (0, 0, [])).2.1 := by decide +kernel
theorem Rl_0 : Rl rn_m00 := by
  obtain ⟨b1, b2, b3, b4, b5, b6, b7, b8, b9, b10, b11⟩ := szB
  have q : ∀ p i, p < 153 → i < (rn_SH.getD p (0, 0, [])).2.1 → (p ≠ 4 ∧ p ≠ 20 ∧ p ≠ 36 ∧ p ≠ 52 ∧ p ≠ 150) → rn_m00.1 p i = 0 := fun p i h1 h2 h3 => (rn_m00_1 p h1 i h2).trans (iv_0 h3)
  have z : ∀ k, k < 101 → rn_m00.1 116 k = 0 := fun k hk => q 116 k (by omega) (by omega) (by omega)
  have e4 : rn_m00.1 4 0 = 0 := (rn_m00_1 4 (by omega) 0 (by omega)).trans (by decide)
  have e5 : rn_m00.1 5 0 = 0 := q 5 0 (by omega) (by omega) (by omega)
  have e9 : rn_m00.1 9 0 = 0 := q 9 0 (by omega) (by omega) (by omega)
  have e14 : rn_m00.1 14 0 = 0 := q 14 0 (by omega) (by omega) (by omega)
  have e11 : rn_m00.1 1 1 = 0 := q 1 1 (by omega) (by omega) (by omega)
  have e12 : rn_m00.1 1 2 = 0 := q 1 2 (by omega) (by omega) (by omega)
  have e152 : rn_m00.1 115 2 = 0 := q 115 2 (by omega) (by omega) (by omega)
  have e1546 : rn_m00.1 115 46 = 0 := q 115 46 (by omega) (by omega) (by omega)
  have e08 : rn_m00.1 0 8 = 0 := q 0 8 (by omega) (by omega) (by omega)
  have e07 : rn_m00.1 0 7 = 0 := q 0 7 (by omega) (by omega) (by omega)
  have hsh : Rsh rn_m00 := fun s hs => by
    obtain ⟨a1, a2⟩ := szA s hs
    have c1 : rn_m00.1 (107 + 2 * s) 0 = 0 := q _ _ (by omega) (by omega) (by omega)
    have c2 : rn_m00.1 (107 + 2 * s) 2 = 0 := q _ _ (by omega) (by omega) (by omega)
    have c3 : rn_m00.1 150 s = -1 := (rn_m00_1 150 (by omega) s (by omega)).trans (by unfold rn_iv; rw [if_neg (by omega), if_pos rfl])
    have c4 : rn_m00.1 151 s = 0 := q _ _ (by omega) (by omega) (by omega)
    refine ⟨Or.inl ⟨c1, c3⟩, by rw [c2, c4], by rw [c4]; decide, by rw [c4]; decide, fun i hi => ?_⟩
    rw [q _ _ (show 107 + 2 * s + 1 < 153 by omega) (by omega) (by omega), q 152 (24 * s + i) (by omega) (by omega) (by omega)]
  generalize rn_m00 = m at *
  have hst : Sta m := ⟨fun _ => 0, Or.inl ⟨rfl, rfl, rfl, rfl⟩, ⟨fun k h1 _ _ _ => z k h1, z 4 (by omega), z 8 (by omega), fun k h1 h2 => z k (by omega)⟩, ⟨⟨e4, fun h => absurd h (by decide)⟩, ⟨e5, fun h => absurd h (by decide)⟩, ⟨e9, fun k hk => absurd hk (Nat.not_lt_zero k)⟩, ⟨e14, fun h => absurd h (by decide)⟩⟩, CH_0 e08⟩
  exact ⟨hsh, ⟨0, by omega, e11, e152, e12, fun i hi => absurd hi (Nat.not_lt_zero i)⟩, hst, Or.inl ⟨e07, e1546⟩⟩
theorem rn_pure_all : rn_Pure := pl_pure G_calls Rl_0
