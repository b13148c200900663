/-! SEARCH: the class's answers -/
theorem plays_c {S V : Nat → Nat} {nf : Nat} {m : rn_Mem} (wg : WG S) (wt : WT S) (wc : WC S) (h0 : S 0 = 1) (h9 : S 9 = 1) (hnf : 2000 < nf) (hc : cS3 S V 3 m) (hC : CH S m) : ∃ m2, lt_plays nf m = some (lN (cAll S), m2) ∧ CH S m2 ∧ Kcs m m2 := by
  obtain ⟨m2, p1, p2, p3, p4⟩ := survey_sp wg wt wc h0 h9 hnf hc hC
  obtain ⟨v, u, um, a1, _, _, _, _, _, _, _, hF⟩ := p2
  have hu3 : uc S ≤ 3 := (wt.2 h9).2.2.2.2
  refine ⟨m2, ?_, p3, p4⟩
  unfold lt_plays
  rw [show m.1 5 0 = nI (S 9) from hc.2.1.1, if_neg (by rw [h9]; decide), p1, Option.bind_some, a1, FN_count (by omega) hF]
/-- which of four bits -/
theorem nib {M k : Nat} (hM : M < 2 ^ 31) (hk : k < 8) : (nI M >>> (nI (4 * k) &&& 31)) &&& 15 = nI (M / 2 ^ (4 * k) % 16) := by
  rw [shr_n hM (by omega), show (15 : Int32) = nI (2 ^ 4 - 1) from rfl, fa_and, Nat.and_two_pow_sub_one_eq_mod]
