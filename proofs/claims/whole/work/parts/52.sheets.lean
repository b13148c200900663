/-! SHEETS: sheet, drop, item -/
def Rsh (m : rn_Mem) : Prop := ∀ s, s < 4 → ((m.1 (107 + 2 * s) 0 = 0 ∧ m.1 150 s = -1) ∨ (m.1 (107 + 2 * s) 0 = 1 ∧ m.1 150 s = m.1 (107 + 2 * s) 1 ∧ 0 ≤ (m.1 150 s).toInt ∧ (m.1 150 s).toInt ≤ 2)) ∧ m.1 (107 + 2 * s) 2 = m.1 151 s ∧ 0 ≤ (m.1 151 s).toInt ∧ (m.1 151 s).toInt ≤ 24 ∧ ∀ i, i < 24 → m.1 (107 + 2 * s + 1) i = m.1 152 (24 * s + i)
/-- the places of the sheets -/
def Psh (p : Nat) : Prop := (107 ≤ p ∧ p ≤ 114) ∨ (150 ≤ p ∧ p ≤ 152)
def Kp (P : Nat → Prop) (m m2 : rn_Mem) : Prop := (∀ p, ¬ P p → m2.1 p = m.1 p) ∧ m2.2 = m.2
theorem Kp.rf {P : Nat → Prop} {m : rn_Mem} : Kp P m m := ⟨fun _ _ => rfl, rfl⟩
theorem sh_rule_l17_sp (q0 : Nat) : ∀ (j k n : Nat) (m : rn_Mem), k + j = 24 → j < n → ∃ m2, sh_rule_l17 q0 n (nI k) m = some m2 ∧ m2.2 = m.2 ∧ ∀ q i, m2.1 q i = if q = q0 + 1 ∧ k ≤ i ∧ i < 24 then 0 else m.1 q i := by
  intro j
  induction j with
  | zero =>
    intro k n m hk hn
    obtain ⟨n, rfl⟩ : ∃ e, n = e + 1 := ⟨n - 1, by omega⟩
    obtain rfl : k = 24 := by omega
    refine ⟨m, ?_, rfl, fun q i => by rw [if_neg (by omega)]⟩
    unfold sh_rule_l17
    rw [if_neg (by decide)]
  | succ j ih =>
    intro k n m hk hn
    obtain ⟨n, rfl⟩ : ∃ e, n = e + 1 := ⟨n - 1, by omega⟩
    obtain ⟨m2, h1, h2, h3⟩ := ih (k + 1) n (rm_i m (q0 + 1) k 0) (by omega) (by omega)
    refine ⟨m2, ?_, by rw [h2, mi_2], fun q i => ?_⟩
    · unfold sh_rule_l17
      rw [if_pos (by rw [i_lt, nI_int (by omega)]; show (k : Int) < 24; omega), if_pos (by rw [in_iff, nI_int (by omega)]; omega)]
      simp only [Option.bind_some, nI_n (show k < 2 ^ 31 by omega), nI_1]
      exact h1
    · rw [h3, mi_get]
      by_cases e : q = q0 + 1
      · by_cases e2 : i = k
        · rw [if_neg (by omega), if_pos ⟨e, e2⟩, if_pos (by omega)]
        · by_cases e3 : k + 1 ≤ i ∧ i < 24
          · rw [if_pos ⟨e, e3⟩, if_pos (by omega)]
          · rw [if_neg (by omega), if_neg (by omega), if_neg (by omega)]
      · rw [if_neg (fun z => e z.1), if_neg (fun z => e z.1), if_neg (fun z => e z.1)]
theorem n24 {s k : Nat} (hs : s < 4) (hk : k < 25) : (24 : Int32) * nI s + nI k = nI (24 * s + k) := by
  rw [show (24 : Int32) = nI 24 by decide, pk_mul, nI_add]
theorem mo_sheet_l40_sp (s : Nat) (hs : s < 4) (a3 : Int32) : ∀ (j k n : Nat) (m : rn_Mem), k + j = 24 → j < n → ∃ m2, mo_sheet_l40 (nI s) a3 n (nI k) m = some m2 ∧ m2.2 = m.2 ∧ ∀ q i, m2.1 q i = if q = 152 ∧ 24 * s + k ≤ i ∧ i < 24 * s + 24 then 0 else m.1 q i := by
  intro j
  induction j with
  | zero =>
    intro k n m hk hn
    obtain ⟨n, rfl⟩ : ∃ e, n = e + 1 := ⟨n - 1, by omega⟩
    obtain rfl : k = 24 := by omega
    refine ⟨m, ?_, rfl, fun q i => by rw [if_neg (by omega)]⟩
    unfold mo_sheet_l40
    rw [if_neg (by decide)]
  | succ j ih =>
    intro k n m hk hn
    obtain ⟨n, rfl⟩ : ∃ e, n = e + 1 := ⟨n - 1, by omega⟩
    obtain ⟨m2, h1, h2, h3⟩ := ih (k + 1) n (rm_i m 152 (24 * s + k) 0) (by omega) (by omega)
    refine ⟨m2, ?_, by rw [h2, mi_2], fun q i => ?_⟩
    · unfold mo_sheet_l40
      rw [if_pos (by rw [i_lt, nI_int (by omega)]; show (k : Int) < 24; omega), n24 hs (by omega), if_pos (by rw [in_iff, nI_int (by omega)]; omega)]
      simp only [Option.bind_some, nI_n (show 24 * s + k < 2 ^ 31 by omega), nI_1]
      exact h1
    · rw [h3, mi_get]
      by_cases e : q = 152
      · by_cases e2 : i = 24 * s + k
        · rw [if_neg (by omega), if_pos ⟨e, e2⟩, if_pos (by omega)]
        · by_cases e3 : 24 * s + (k + 1) ≤ i ∧ i < 24 * s + 24
          · rw [if_pos ⟨e, e3⟩, if_pos (by omega)]
          · rw [if_neg (by omega), if_neg (by omega), if_neg (by omega)]
      · rw [if_neg (fun z => e z.1), if_neg (fun z => e z.1), if_neg (fun z => e z.1)]
theorem lt_isNoSheet_eq (n : Nat) (a : Int32) (m : rn_Mem) : lt_isNoSheet n a m = some (if 0 ≤ a.toInt ∧ a.toInt ≤ 3 then 0 else 1, m) := by
  unfold lt_isNoSheet
  simp only [i_lt, show (0 : Int32).toInt = 0 by decide, show (4 : Int32).toInt = 4 by decide]
  by_cases h1 : a.toInt < 0
  · rw [if_pos h1, if_neg (by omega)]
  · rw [if_neg h1]
    by_cases h2 : a.toInt < 4
    · rw [if_pos h2, if_pos (by omega)]
    · rw [if_neg h2, if_neg (by omega)]
theorem lt_isNoLane_eq (n : Nat) (a : Int32) (m : rn_Mem) : lt_isNoLane n a m = some (if 0 ≤ a.toInt ∧ a.toInt ≤ 2 then 0 else 1, m) := by
  unfold lt_isNoLane
  simp only [i_lt, show (0 : Int32).toInt = 0 by decide, show (3 : Int32).toInt = 3 by decide]
  by_cases h1 : a.toInt < 0
  · rw [if_pos h1, if_neg (by omega)]
  · rw [if_neg h1]
    by_cases h2 : a.toInt < 3
    · rw [if_pos h2, if_pos (by omega)]
    · rw [if_neg h2, if_neg (by omega)]
theorem mo_isSheet_eq (n : Nat) (a b : Int32) (m : rn_Mem) : mo_isSheet n a b m = some (if (0 ≤ a.toInt ∧ a.toInt ≤ 3) ∧ (0 ≤ b.toInt ∧ b.toInt ≤ 2) then 1 else 0, m) := by
  unfold mo_isSheet
  rw [mo_in_i n a 0 3 0 3 m (by decide) (by decide)]
  simp only [Option.bind_some]
  rw [mo_in_i n b 0 2 0 2 m (by decide) (by decide)]
  simp only [Option.bind_some]
  by_cases h1 : 0 ≤ a.toInt ∧ a.toInt ≤ 3
  · rw [if_pos h1, if_neg (by decide)]
    by_cases h2 : 0 ≤ b.toInt ∧ b.toInt ≤ 2
    · rw [if_pos h2, if_neg (by decide), if_pos ⟨h1, h2⟩]
    · rw [if_neg h2, if_pos rfl, if_neg (fun z => h2 z.2)]
  · rw [if_neg h1, if_pos rfl, if_neg (fun z => h1 z.1)]
theorem L_sheet {n : Nat} (hn : pN ≤ n) (a b c : Int32) (m : rn_Mem) (hR : Rsh m) : ∃ (r : Int32) (m1 m2 : rn_Mem), lt_sheet n a b c m = some (r, m1) ∧ mo_sheet n a b c m1 = some (r, m2) ∧ Rsh m2 ∧ Kp Psh m m2 := by
  unfold pN at hn
  unfold lt_sheet
  simp only [lt_isNoSheet_eq, Option.bind_some, lt_isNoLane_eq]
  by_cases hs : ¬ (0 ≤ a.toInt ∧ a.toInt ≤ 3)
  · rw [if_neg hs, if_neg (by decide)]
    refine ⟨_, _, m, rfl, ?_, hR, Kp.rf⟩
    unfold mo_sheet
    rw [mo_isSheet_eq, if_neg (fun z => hs z.1)]
    rfl
  have hs := Classical.not_not.mp hs
  rw [if_pos hs, if_pos rfl]
  by_cases hl : ¬ (0 ≤ b.toInt ∧ b.toInt ≤ 2)
  · rw [if_neg hl, if_neg (by decide)]
    refine ⟨_, _, m, rfl, ?_, hR, Kp.rf⟩
    unfold mo_sheet
    rw [mo_isSheet_eq, if_neg (fun z => hl z.2)]
    rfl
  have hl := Classical.not_not.mp hl
  rw [if_pos hl, if_pos rfl]
  have hmo : ∀ m1 : rn_Mem, mo_sheet n a b c m1 = (if 24 < c then some (-1, m1) else if c < 0 then some (-14, m1) else if rn_in a 4 = true then (mo_sheet_l40 a c n 0 (rm_i (rm_i m1 150 a.toNatClampNeg b) 151 a.toNatClampNeg c)).bind fun m15 => some (c, m15) else none) := by
    intro m1
    unfold mo_sheet
    rw [mo_isSheet_eq, if_pos ⟨hs, hl⟩]
    simp only [Option.bind_some]
    rw [if_neg (by decide)]
    by_cases g : rn_in a 4 = true
    · simp only [g, if_true]
    · simp only [g, if_false]
      rfl
  simp only [hmo]
  by_cases h1 : 24 < c
  · exact ⟨_, m, m, by rw [if_pos h1], by rw [if_pos h1], hR, Kp.rf⟩
  rw [if_neg h1]
  by_cases h2 : c < 0
  · exact ⟨_, m, m, by rw [if_pos h2], by rw [if_neg h1, if_pos h2], hR, Kp.rf⟩
  rw [if_neg h2]
  obtain ⟨s, hs4, rfl⟩ := i_nat (k := 4) hs.1 (by omega)
  have hin : rn_in (nI s) 4 = true := by rw [in_iff, nI_int (by omega)]; omega
  rw [if_pos hin, nI_n (by omega)]
  unfold sh_rule
  simp only [Option.bind_some]
  obtain ⟨u, u1, u2, u3⟩ := sh_rule_l17_sp (107 + 2 * s) 24 0 n (rm_i (rm_i (rm_i m (107 + 2 * s) 0 1) (107 + 2 * s) 1 b) (107 + 2 * s) 2 c) (by omega) (by omega)
  rw [show (0 : Int32) = nI 0 from nI_0.symm]
  rw [u1]
  simp only [Option.bind_some]
  obtain ⟨v, v1, v2, v3⟩ := mo_sheet_l40_sp s hs4 c 24 0 n (rm_i (rm_i u 150 s b) 151 s c) (by omega) (by omega)
  refine ⟨c, u, v, rfl, ?_, ?_, ?_⟩
  · rw [if_neg h1, if_neg (by rw [nI_0]; exact h2), if_pos hin]
    rw [v1]
    rfl
  · have hc0 : 0 ≤ c.toInt := by
      have := mt i_lt.mpr h2
      rw [show (0 : Int32).toInt = 0 by decide] at this
      omega
    have hc24 : c.toInt ≤ 24 := by
      have := mt i_lt.mpr h1
      rw [show (24 : Int32).toInt = 24 by decide] at this
      omega
    intro t ht
    obtain ⟨r1, r2, r3, r4, r5⟩ := hR t ht
    simp only [v3, mi_get, u3]
    by_cases e : t = s
    · subst e
      refine ⟨Or.inr ⟨?_, ?_, ?_, ?_⟩, ?_, ?_, ?_, fun i hi => ?_⟩
      all_goals simp (disch := omega) only [if_pos, if_neg, true_and, and_true, if_true]
      all_goals first | rfl | exact hl.1 | exact hl.2 | exact hc0 | exact hc24
    · refine ⟨?_, ?_, ?_, ?_, fun i hi => ?_⟩
      all_goals simp (disch := omega) only [if_pos, if_neg, true_and, and_true, if_true]
      · exact r1
      · exact r2
      · exact r3
      · exact r4
      · exact r5 i hi
  · refine ⟨fun p hp => ?_, by rw [v2, mi_2, mi_2, u2, mi_2, mi_2, mi_2]⟩
    unfold Psh at hp
    funext i
    simp only [v3, mi_get, u3]
    simp (disch := omega) only [if_pos, if_neg, true_and, and_true, if_true]
theorem L_drop {n : Nat} (hn : pN ≤ n) (a : Int32) (m : rn_Mem) (hR : Rsh m) : ∃ (r : Int32) (m1 m2 : rn_Mem), lt_drop n a m = some (r, m1) ∧ mo_drop n a m1 = some (r, m2) ∧ Rsh m2 ∧ Kp Psh m m2 := by
  unfold lt_drop
  simp only [lt_isNoSheet_eq, Option.bind_some]
  have hmo : ∀ m1 : rn_Mem, mo_drop n a m1 = (if ¬ (0 ≤ a.toInt ∧ a.toInt ≤ 3) then some (-1, m1) else if rn_in a 4 = true then (if m1.1 150 a.toNatClampNeg < 0 then some (-11, m1) else some ((rm_i m1 150 a.toNatClampNeg (-1)).1 151 a.toNatClampNeg, rm_i m1 150 a.toNatClampNeg (-1))) else none) := by
    intro m1
    unfold mo_drop
    rw [mo_in_i n a 0 3 0 3 m1 (by decide) (by decide)]
    simp only [Option.bind_some]
    by_cases h : 0 ≤ a.toInt ∧ a.toInt ≤ 3
    · rw [if_pos h, if_neg (by decide)]
      rw [if_neg (show ¬ ¬ (0 ≤ a.toInt ∧ a.toInt ≤ 3) from fun z => z h)]
      by_cases g : rn_in a 4 = true
      · simp only [g, if_true]
      · simp only [g, if_false]
        rfl
    · rw [if_neg h, if_pos rfl, if_pos h]
  simp only [hmo]
  by_cases hs : ¬ (0 ≤ a.toInt ∧ a.toInt ≤ 3)
  · rw [if_neg hs, if_neg (by decide)]
    exact ⟨_, m, m, rfl, by rw [if_pos hs], hR, Kp.rf⟩
  have hs1 := Classical.not_not.mp hs
  rw [if_pos hs1, if_pos rfl]
  obtain ⟨s, hs4, rfl⟩ := i_nat (k := 4) hs1.1 (by omega)
  have hin : rn_in (nI s) 4 = true := by rw [in_iff, nI_int (by omega)]; omega
  simp only [hin, if_true, nI_n (show s < 2 ^ 31 by omega)]
  obtain ⟨r1, r2, r3, r4, r5⟩ := hR s hs4
  rcases r1 with ⟨q1, q2⟩ | ⟨q1, q2, q3, q4⟩
  · rw [if_pos q1]
    refine ⟨-11, m, m, rfl, ?_, hR, Kp.rf⟩
    rw [if_neg hs, if_pos (by rw [q2]; decide)]
  · rw [if_neg (by rw [q1]; decide)]
    refine ⟨m.1 (107 + 2 * s) 2, rm_i m (107 + 2 * s) 0 0, rm_i (rm_i m (107 + 2 * s) 0 0) 150 s (-1), ?_, ?_, ?_, ?_⟩
    · rw [mi_get, if_neg (by omega)]
    · rw [if_neg hs, if_neg, mi_get, mi_get, if_neg (by omega), if_neg (by omega), r2]
      rw [mi_get, if_neg (by omega), i_lt, show (0 : Int32).toInt = 0 by decide]
      omega
    · intro t ht
      obtain ⟨w1, w2, w3, w4, w5⟩ := hR t ht
      simp only [mi_get]
      by_cases e : t = s
      · subst e
        refine ⟨Or.inl ⟨?_, ?_⟩, ?_, ?_, ?_, fun i hi => ?_⟩
        all_goals simp (disch := omega) only [if_pos, if_neg, true_and, and_true, if_true]
        · exact w2
        · exact w3
        · exact w4
        · exact w5 i hi
      · refine ⟨?_, ?_, ?_, ?_, fun i hi => ?_⟩
        all_goals simp (disch := omega) only [if_pos, if_neg, true_and, and_true, if_true]
        · exact w1
        · exact w2
        · exact w3
        · exact w4
        · exact w5 i hi
    · refine ⟨fun p hp => ?_, rfl⟩
      unfold Psh at hp
      funext i
      simp only [mi_get]
      simp (disch := omega) only [if_pos, if_neg, true_and, and_true, if_true]
