/-! CLUE -/
def Sd (k a b c : Nat) : Prop := (k = 0 ∧ a < 4 ∧ b < 16 ∧ c < 1) ∨ (k = 1 ∧ a < 4 ∧ b < 4 ∧ c < 1) ∨ (k = 2 ∧ a < 16 ∧ b < 16 ∧ a ≠ b ∧ c < 1) ∨ (k = 3 ∧ a < 4 ∧ b < 4 ∧ c < 4)
def SD (k a b c : Int32) : Prop := (k = 0 ∧ (0 ≤ a.toInt ∧ a.toInt ≤ 3) ∧ (0 ≤ b.toInt ∧ b.toInt ≤ 15) ∧ 0 ≤ c.toInt ∧ c.toInt ≤ 0) ∨ (k = 1 ∧ (0 ≤ a.toInt ∧ a.toInt ≤ 3) ∧ (0 ≤ b.toInt ∧ b.toInt ≤ 3) ∧ 0 ≤ c.toInt ∧ c.toInt ≤ 0) ∨ (k = 2 ∧ (0 ≤ a.toInt ∧ a.toInt ≤ 15) ∧ (0 ≤ b.toInt ∧ b.toInt ≤ 15) ∧ ¬ a = b ∧ 0 ≤ c.toInt ∧ c.toInt ≤ 0) ∨ (k = 3 ∧ (0 ≤ a.toInt ∧ a.toInt ≤ 3) ∧ (0 ≤ b.toInt ∧ b.toInt ≤ 3) ∧ 0 ≤ c.toInt ∧ c.toInt ≤ 3)
theorem SD_n {k a b c : Int32} (h : SD k a b c) : ∃ k' a' b' c', k = nI k' ∧ a = nI a' ∧ b = nI b' ∧ c = nI c' ∧ Sd k' a' b' c' := by
  have hc : 0 ≤ c.toInt ∧ c.toInt ≤ 3 := by rcases h with h | h | h | h <;> omega
  have ha : 0 ≤ a.toInt ∧ a.toInt ≤ 15 := by rcases h with h | h | h | h <;> omega
  have hb : 0 ≤ b.toInt ∧ b.toInt ≤ 15 := by rcases h with h | h | h | h <;> omega
  obtain ⟨a', a1, rfl⟩ := i_nat (x := a) (k := 16) ha.1 (by omega)
  obtain ⟨b', b1, rfl⟩ := i_nat (x := b) (k := 16) hb.1 (by omega)
  obtain ⟨c', c1, rfl⟩ := i_nat (x := c) (k := 4) hc.1 (by omega)
  unfold SD at h
  rw [nI_int (show a' < 2 ^ 31 by omega), nI_int (show b' < 2 ^ 31 by omega), nI_int (show c' < 2 ^ 31 by omega), nI_eq (by omega) (by omega)] at h
  rcases h with h | h | h | h
  · exact ⟨0, a', b', c', h.1, rfl, rfl, rfl, Or.inl ⟨rfl, by omega, by omega, by omega⟩⟩
  · exact ⟨1, a', b', c', h.1, rfl, rfl, rfl, Or.inr (Or.inl ⟨rfl, by omega, by omega, by omega⟩)⟩
  · exact ⟨2, a', b', c', h.1, rfl, rfl, rfl, Or.inr (Or.inr (Or.inl ⟨rfl, by omega, by omega, h.2.2.2.1, by omega⟩))⟩
  · exact ⟨3, a', b', c', h.1, rfl, rfl, rfl, Or.inr (Or.inr (Or.inr ⟨rfl, by omega, by omega, by omega⟩))⟩
theorem cl_sound_y {n k a b c : Nat} {m : rn_Mem} (h : Sd k a b c) : cl_sound n (nI k) (nI a) (nI b) (nI c) m = some (1, m) := by
  unfold cl_sound
  rcases h with ⟨rfl, h⟩ | ⟨rfl, h⟩ | ⟨rfl, h⟩ | ⟨rfl, h⟩
  all_goals
    simp (disch := omega) only [k0, k1, k2, k3, k4, k5, k6, k7, k8, k9, k10, k11, k12, k13, k15, k16, k24, k30, k48, k64, k88, k89, k99, k101, nI_ltI, nI_eq, if_pos, if_neg, Option.bind_some, if_true, if_false]
    try simp (disch := omega) only [if_pos, if_neg]
theorem cl_sound_n {n : Nat} {k a b c : Int32} {m : rn_Mem} (h : ¬ SD k a b c) : cl_sound n k a b c m = some (0, m) := by
  unfold cl_sound
  simp only [i_lt, t0, t1, t2, t3, t4, t5, t6, t7, t11, t12, t15, t16, t30, t65535, tm1]
  by_cases g0 : k = 0
  · subst g0
    have h' : ¬ ((0 ≤ a.toInt ∧ a.toInt ≤ 3) ∧ (0 ≤ b.toInt ∧ b.toInt ≤ 15) ∧ 0 ≤ c.toInt ∧ c.toInt ≤ 0) := fun z => h (Or.inl ⟨rfl, z⟩)
    simp only [show ((0 : Int32) = 2) = False from eq_false (by decide), show ((0 : Int32) = 3) = False from eq_false (by decide), if_true, if_false, Option.bind_some, t0, t1, t2, t3, t4, t5, t6, t7, t11, t12, t15, t16, t30, t65535, tm1]
    repeat' split
    all_goals first | rfl | (exfalso; omega)
  by_cases g1 : k = 1
  · subst g1
    have h' : ¬ ((0 ≤ a.toInt ∧ a.toInt ≤ 3) ∧ (0 ≤ b.toInt ∧ b.toInt ≤ 3) ∧ 0 ≤ c.toInt ∧ c.toInt ≤ 0) := fun z => h (Or.inr (Or.inl ⟨rfl, z⟩))
    simp only [show ((1 : Int32) = 2) = False from eq_false (by decide), show ((1 : Int32) = 3) = False from eq_false (by decide), show ((1 : Int32) = 0) = False from eq_false (by decide), if_true, if_false, Option.bind_some, t0, t1, t2, t3, t4, t5, t6, t7, t11, t12, t15, t16, t30, t65535, tm1]
    repeat' split
    all_goals first | rfl | (exfalso; omega)
  by_cases g2 : k = 2
  · subst g2
    have h' : ¬ ((0 ≤ a.toInt ∧ a.toInt ≤ 15) ∧ (0 ≤ b.toInt ∧ b.toInt ≤ 15) ∧ ¬ a = b ∧ 0 ≤ c.toInt ∧ c.toInt ≤ 0) := fun z => h (Or.inr (Or.inr (Or.inl ⟨rfl, z⟩)))
    simp only [show ((2 : Int32) = 3) = False from eq_false (by decide), show ((2 : Int32) = 0) = False from eq_false (by decide), if_true, if_false, Option.bind_some, t0, t1, t2, t3, t4, t5, t6, t7, t11, t12, t15, t16, t30, t65535, tm1]
    by_cases g : a = b
    · simp only [g, if_true]
      repeat' split
      all_goals rfl
    · simp only [g, if_false]
      have h' : ¬ ((0 ≤ a.toInt ∧ a.toInt ≤ 15) ∧ (0 ≤ b.toInt ∧ b.toInt ≤ 15) ∧ 0 ≤ c.toInt ∧ c.toInt ≤ 0) := fun z => h' ⟨z.1, z.2.1, g, z.2.2⟩
      repeat' split
      all_goals first | rfl | (exfalso; omega)
  by_cases g3 : k = 3
  · subst g3
    have h' : ¬ ((0 ≤ a.toInt ∧ a.toInt ≤ 3) ∧ (0 ≤ b.toInt ∧ b.toInt ≤ 3) ∧ 0 ≤ c.toInt ∧ c.toInt ≤ 3) := fun z => h (Or.inr (Or.inr (Or.inr ⟨rfl, z⟩)))
    simp only [show ((3 : Int32) = 2) = False from eq_false (by decide), show ((3 : Int32) = 1) = False from eq_false (by decide), show ((3 : Int32) = 0) = False from eq_false (by decide), if_true, if_false, Option.bind_some, t0, t1, t2, t3, t4, t5, t6, t7, t11, t12, t15, t16, t30, t65535, tm1]
    repeat' split
    all_goals first | rfl | (exfalso; omega)
  have hk : k.toInt < 0 ∨ 3 < k.toInt := by
    by_cases q : k.toInt < 0
    · exact Or.inl q
    · by_cases q2 : 3 < k.toInt
      · exact Or.inr q2
      · exfalso
        obtain ⟨j, hj, rfl⟩ := i_nat (x := k) (k := 4) (by omega) (by omega)
        match j, hj with
        | 0, _ => exact g0 rfl
        | 1, _ => exact g1 rfl
        | 2, _ => exact g2 rfl
        | 3, _ => exact g3 rfl
  rcases hk with q | q
  · rw [if_pos q]
  · rw [if_neg (by omega), if_pos q]
theorem mo_clue_n {n : Nat} {k a b c : Int32} {m : rn_Mem} (h : ¬ SD k a b c) : mo_clue n k a b c m = some (-1, m) := by
  unfold mo_clue
  by_cases g0 : k = 0
  · subst g0
    have h' : ¬ ((0 ≤ a.toInt ∧ a.toInt ≤ 3) ∧ (0 ≤ b.toInt ∧ b.toInt ≤ 15) ∧ 0 ≤ c.toInt ∧ c.toInt ≤ 0) := fun z => h (Or.inl ⟨rfl, z⟩)
    simp only [if_true, Option.bind_some, mo_in_j, Int32.toInt_toInt64, j0, j1, j2, j3, j7, j8, j11, j12, j15, j29, jm1]
    by_cases q1 : 0 ≤ a.toInt ∧ a.toInt ≤ 3
    · by_cases q2 : 0 ≤ b.toInt ∧ b.toInt ≤ 15
      · simp only [if_pos q1, if_pos q2, if_neg (show ¬ (1 : Int32) = 0 by decide), Option.bind_some, if_neg (show ¬ (0 : Int32) = 3 by decide), mo_in_j, Int32.toInt_toInt64, j0, j1, j2, j3, j7, j8, j11, j12, j15, j29, jm1, if_neg (show ¬ (0 ≤ c.toInt ∧ c.toInt ≤ 0) from fun z => h' ⟨q1, q2, z⟩), if_true]
      · simp only [if_pos q1, if_neg q2, if_neg (show ¬ (1 : Int32) = 0 by decide), Option.bind_some, if_true]
    · simp only [if_neg q1, Option.bind_some, if_true]
  by_cases g1 : k = 1
  · subst g1
    have h' : ¬ ((0 ≤ a.toInt ∧ a.toInt ≤ 3) ∧ (0 ≤ b.toInt ∧ b.toInt ≤ 3) ∧ 0 ≤ c.toInt ∧ c.toInt ≤ 0) := fun z => h (Or.inr (Or.inl ⟨rfl, z⟩))
    simp only [if_neg g0, if_true, Option.bind_some, mo_in_j, Int32.toInt_toInt64, j0, j1, j2, j3, j7, j8, j11, j12, j15, j29, jm1]
    by_cases q1 : 0 ≤ a.toInt ∧ a.toInt ≤ 3
    · by_cases q2 : 0 ≤ b.toInt ∧ b.toInt ≤ 3
      · simp only [if_pos q1, if_pos q2, if_neg (show ¬ (1 : Int32) = 0 by decide), Option.bind_some, if_neg (show ¬ (1 : Int32) = 3 by decide), mo_in_j, Int32.toInt_toInt64, j0, j1, j2, j3, j7, j8, j11, j12, j15, j29, jm1, if_neg (show ¬ (0 ≤ c.toInt ∧ c.toInt ≤ 0) from fun z => h' ⟨q1, q2, z⟩), if_true]
      · simp only [if_pos q1, if_neg q2, if_neg (show ¬ (1 : Int32) = 0 by decide), Option.bind_some, if_true]
    · simp only [if_neg q1, Option.bind_some, if_true]
  by_cases g2 : k = 2
  · subst g2
    have h' : ¬ ((0 ≤ a.toInt ∧ a.toInt ≤ 15) ∧ (0 ≤ b.toInt ∧ b.toInt ≤ 15) ∧ ¬ a = b ∧ 0 ≤ c.toInt ∧ c.toInt ≤ 0) := fun z => h (Or.inr (Or.inr (Or.inl ⟨rfl, z⟩)))
    simp only [if_neg g0, if_neg g1, if_true, Option.bind_some, mo_in_j, Int32.toInt_toInt64, j0, j1, j2, j3, j7, j8, j11, j12, j15, j29, jm1]
    by_cases q1 : 0 ≤ a.toInt ∧ a.toInt ≤ 15
    · by_cases q2 : 0 ≤ b.toInt ∧ b.toInt ≤ 15
      · by_cases q3 : a = b
        · simp only [if_pos q1, if_pos q2, if_pos q3, if_neg (show ¬ (1 : Int32) = 0 by decide), Option.bind_some, if_true]
        · simp only [if_pos q1, if_pos q2, if_neg q3, if_neg (show ¬ (1 : Int32) = 0 by decide), Option.bind_some, if_neg (show ¬ (2 : Int32) = 3 by decide), mo_in_j, Int32.toInt_toInt64, j0, j1, j2, j3, j7, j8, j11, j12, j15, j29, jm1, if_neg (show ¬ (0 ≤ c.toInt ∧ c.toInt ≤ 0) from fun z => h' ⟨q1, q2, q3, z⟩), if_true]
      · simp only [if_pos q1, if_neg q2, if_neg (show ¬ (1 : Int32) = 0 by decide), Option.bind_some, if_true]
    · simp only [if_neg q1, Option.bind_some, if_true]
  by_cases g3 : k = 3
  · subst g3
    have h' : ¬ ((0 ≤ a.toInt ∧ a.toInt ≤ 3) ∧ (0 ≤ b.toInt ∧ b.toInt ≤ 3) ∧ 0 ≤ c.toInt ∧ c.toInt ≤ 3) := fun z => h (Or.inr (Or.inr (Or.inr ⟨rfl, z⟩)))
    simp only [if_neg g0, if_neg g1, if_neg g2, if_true, Option.bind_some, mo_in_j, Int32.toInt_toInt64, j0, j1, j2, j3, j7, j8, j11, j12, j15, j29, jm1]
    by_cases q1 : 0 ≤ a.toInt ∧ a.toInt ≤ 3
    · by_cases q2 : 0 ≤ b.toInt ∧ b.toInt ≤ 3
      · simp only [if_pos q1, if_pos q2, if_neg (show ¬ (1 : Int32) = 0 by decide), Option.bind_some, if_true, mo_in_j, Int32.toInt_toInt64, j0, j1, j2, j3, j7, j8, j11, j12, j15, j29, jm1, if_neg (show ¬ (0 ≤ c.toInt ∧ c.toInt ≤ 3) from fun z => h' ⟨q1, q2, z⟩)]
      · simp only [if_pos q1, if_neg q2, if_neg (show ¬ (1 : Int32) = 0 by decide), Option.bind_some, if_true]
    · simp only [if_neg q1, Option.bind_some, if_true]
  simp only [if_neg g0, if_neg g1, if_neg g2, if_neg g3, Option.bind_some, if_true]
def Ft (S : Nat → Nat) (k a b c : Nat) : Prop := (k = 0 ∧ a < S 1 ∧ (S 3).testBit b = true) ∨ (k = 1 ∧ a < S 1 ∧ b < S 2) ∨ (k = 2 ∧ (S 3).testBit a = true ∧ (S 3).testBit b = true) ∨ (k = 3 ∧ a < S 1 ∧ c < S 2)
theorem cl_fits_sp {n k a b c : Nat} {m : rn_Mem} {S : Nat → Nat} (hs : Sd k a b c) (wg : WG S) (e1 : m.1 4 1 = nI (S 1)) (e2 : m.1 4 2 = nI (S 2)) (e3 : m.1 4 3 = nI (S 3)) : (Ft S k a b c → cl_fits n 4 (nI k) (nI a) (nI b) (nI c) m = some (1, m)) ∧ (¬ Ft S k a b c → cl_fits n 4 (nI k) (nI a) (nI b) (nI c) m = some (0, m)) := by
  have hn := wg.2.1
  have ht := wg.2.2.2.1
  have hP := wg.2.2.2.2.2.1
  unfold Ft cl_fits
  rcases hs with ⟨rfl, h⟩ | ⟨rfl, h⟩ | ⟨rfl, h⟩ | ⟨rfl, h⟩
  · rw [if_pos (show nI 0 = 0 from rfl), e1, ga_has_eq n 4 (S 3) b m (by omega) e3 hP]
    simp (disch := omega) only [nI_ltI, Option.bind_some]
    by_cases q1 : a < S 1
    · rw [if_pos q1]
      cases q2 : (S 3).testBit b
      · exact ⟨fun z => by rcases z with z | z | z | z <;> first | (exact absurd z.2.2 (by decide)) | omega, fun _ => rfl⟩
      · exact ⟨fun _ => rfl, fun z => absurd (Or.inl ⟨by trivial, q1, by trivial⟩) z⟩
    · rw [if_neg q1]
      exact ⟨fun z => by rcases z with z | z | z | z <;> omega, fun _ => rfl⟩
  · rw [if_neg (show ¬ nI 1 = 0 by decide), if_pos (show nI 1 = 1 from rfl), e1, e2]
    simp (disch := omega) only [nI_ltI]
    by_cases q1 : a < S 1
    · rw [if_pos q1]
      by_cases q2 : b < S 2
      · rw [if_pos q2]
        exact ⟨fun _ => rfl, fun z => absurd (Or.inr (Or.inl ⟨by trivial, q1, q2⟩)) z⟩
      · rw [if_neg q2]
        exact ⟨fun z => by rcases z with z | z | z | z <;> omega, fun _ => rfl⟩
    · rw [if_neg q1]
      exact ⟨fun z => by rcases z with z | z | z | z <;> omega, fun _ => rfl⟩
  · rw [if_neg (show ¬ nI 2 = 0 by decide), if_neg (show ¬ nI 2 = 1 by decide), if_pos (show nI 2 = 2 from rfl), ga_has_eq n 4 (S 3) a m (by omega) e3 hP]
    simp only [Option.bind_some]
    cases q1 : (S 3).testBit a
    · exact ⟨fun z => by rcases z with z | z | z | z <;> first | (exact absurd z.2.1 (by decide)) | omega, fun _ => rfl⟩
    · simp only [if_true]
      rw [if_neg (by decide), ga_has_eq n 4 (S 3) b m (by omega) e3 hP]
      cases q2 : (S 3).testBit b
      · exact ⟨fun z => by rcases z with z | z | z | z <;> first | (exact absurd z.2.2 (by decide)) | omega, fun _ => rfl⟩
      · exact ⟨fun _ => rfl, fun z => absurd (Or.inr (Or.inr (Or.inl ⟨by trivial, by trivial, by trivial⟩))) z⟩
  · rw [if_neg (show ¬ nI 3 = 0 by decide), if_neg (show ¬ nI 3 = 1 by decide), if_neg (show ¬ nI 3 = 2 by decide), e1, e2]
    simp (disch := omega) only [nI_ltI]
    by_cases q1 : a < S 1
    · rw [if_pos q1]
      by_cases q2 : c < S 2
      · rw [if_pos q2]
        exact ⟨fun _ => rfl, fun z => absurd (Or.inr (Or.inr (Or.inr ⟨by trivial, q1, q2⟩))) z⟩
      · rw [if_neg q2]
        exact ⟨fun z => by rcases z with z | z | z | z <;> omega, fun _ => rfl⟩
    · rw [if_neg q1]
      exact ⟨fun z => by rcases z with z | z | z | z <;> omega, fun _ => rfl⟩
/-- what the reference does with a sound clue once a game is there -/
def mcl (S : Nat → Nat) (k a b c : Nat) (m : rn_Mem) : Option (Int32 × rn_Mem) :=
  if S 10 = 6 then some (-3, m) else some (nI (S 10), rm_i (rm_i (rm_i (rm_i (rm_i m 116 (64 + 4 * S 10) (nI k)) 116 (65 + 4 * S 10) (nI a)) 116 (66 + 4 * S 10) (nI b)) 116 (67 + 4 * S 10) (nI c)) 116 10 (nI (S 10 + 1)))
theorem mo_clue_0 {n k a b c : Nat} {m : rn_Mem} (hs : Sd k a b c) (hz : m.1 116 0 = 0) : mo_clue n (nI k) (nI a) (nI b) (nI c) m = some (-2, m) := by
  unfold mo_clue
  rcases hs with ⟨rfl, h⟩ | ⟨rfl, h⟩ | ⟨rfl, h⟩ | ⟨rfl, h⟩
  · have ha : (0 : Int) ≤ (nI a).toInt ∧ (nI a).toInt ≤ 3 := by rw [nI_int (by omega)]; omega
    have hb : (0 : Int) ≤ (nI b).toInt ∧ (nI b).toInt ≤ 15 := by rw [nI_int (by omega)]; omega
    have hc : (0 : Int) ≤ (nI c).toInt ∧ (nI c).toInt ≤ 0 := by rw [nI_int (by omega)]; omega
    simp only [if_pos (show nI 0 = 0 from rfl), Option.bind_some, mo_in_j, Int32.toInt_toInt64, j0, j1, j2, j3, j7, j8, j11, j12, j15, j29, jm1, if_pos ha, if_pos hb, if_neg (show ¬ (1 : Int32) = 0 by decide)]
    simp only [if_neg (show ¬ nI 0 = 3 by decide), Option.bind_some, mo_in_j, Int32.toInt_toInt64, j0, j1, j2, j3, j7, j8, j11, j12, j15, j29, jm1, if_pos hc, if_neg (show ¬ (1 : Int32) = 0 by decide)]
    rw [if_pos hz]
  · have ha : (0 : Int) ≤ (nI a).toInt ∧ (nI a).toInt ≤ 3 := by rw [nI_int (by omega)]; omega
    have hb : (0 : Int) ≤ (nI b).toInt ∧ (nI b).toInt ≤ 3 := by rw [nI_int (by omega)]; omega
    have hc : (0 : Int) ≤ (nI c).toInt ∧ (nI c).toInt ≤ 0 := by rw [nI_int (by omega)]; omega
    simp only [if_neg (show ¬ nI 1 = 0 by decide), if_pos (show nI 1 = 1 from rfl), Option.bind_some, mo_in_j, Int32.toInt_toInt64, j0, j1, j2, j3, j7, j8, j11, j12, j15, j29, jm1, if_pos ha, if_pos hb, if_neg (show ¬ (1 : Int32) = 0 by decide)]
    simp only [if_neg (show ¬ nI 1 = 3 by decide), Option.bind_some, mo_in_j, Int32.toInt_toInt64, j0, j1, j2, j3, j7, j8, j11, j12, j15, j29, jm1, if_pos hc, if_neg (show ¬ (1 : Int32) = 0 by decide)]
    rw [if_pos hz]
  · have ha : (0 : Int) ≤ (nI a).toInt ∧ (nI a).toInt ≤ 15 := by rw [nI_int (by omega)]; omega
    have hb : (0 : Int) ≤ (nI b).toInt ∧ (nI b).toInt ≤ 15 := by rw [nI_int (by omega)]; omega
    have hc : (0 : Int) ≤ (nI c).toInt ∧ (nI c).toInt ≤ 0 := by rw [nI_int (by omega)]; omega
    have hab : ¬ nI a = nI b := by rw [nI_eq (by omega) (by omega)]; exact h.2.2.1
    simp only [if_neg (show ¬ nI 2 = 0 by decide), if_neg (show ¬ nI 2 = 1 by decide), if_pos (show nI 2 = 2 from rfl), Option.bind_some, mo_in_j, Int32.toInt_toInt64, j0, j1, j2, j3, j7, j8, j11, j12, j15, j29, jm1, if_pos ha, if_pos hb, if_neg hab, if_neg (show ¬ (1 : Int32) = 0 by decide)]
    simp only [if_neg (show ¬ nI 2 = 3 by decide), Option.bind_some, mo_in_j, Int32.toInt_toInt64, j0, j1, j2, j3, j7, j8, j11, j12, j15, j29, jm1, if_pos hc, if_neg (show ¬ (1 : Int32) = 0 by decide)]
    rw [if_pos hz]
  · have ha : (0 : Int) ≤ (nI a).toInt ∧ (nI a).toInt ≤ 3 := by rw [nI_int (by omega)]; omega
    have hb : (0 : Int) ≤ (nI b).toInt ∧ (nI b).toInt ≤ 3 := by rw [nI_int (by omega)]; omega
    have hc : (0 : Int) ≤ (nI c).toInt ∧ (nI c).toInt ≤ 3 := by rw [nI_int (by omega)]; omega
    simp only [if_neg (show ¬ nI 3 = 0 by decide), if_neg (show ¬ nI 3 = 1 by decide), if_neg (show ¬ nI 3 = 2 by decide), if_pos (show nI 3 = 3 from rfl), Option.bind_some, mo_in_j, Int32.toInt_toInt64, j0, j1, j2, j3, j7, j8, j11, j12, j15, j29, jm1, if_pos ha, if_pos hb, if_neg (show ¬ (1 : Int32) = 0 by decide)]
    simp only [Option.bind_some, mo_in_j, Int32.toInt_toInt64, j0, j1, j2, j3, j7, j8, j11, j12, j15, j29, jm1, if_pos hc, if_neg (show ¬ (1 : Int32) = 0 by decide)]
    rw [if_pos hz]
theorem mcl_eq {S : Nat → Nat} {k a b c : Nat} {m : rn_Mem} (h10 : S 10 ≤ 6) (hz : m.1 116 10 = nI (S 10)) : (if m.1 116 10 = 6 then some (-3, m) else
            (some ((64 : Int32) + ((4 : Int32) * (m.1 116 10)))).bind fun (x83 : Int32) =>
            if rn_in x83 101 = true then
              (some (rm_i m 116 x83.toNatClampNeg (nI k))).bind fun (m84 : rn_Mem) =>
              if rn_in (x83 + 1) 101 = true then
                (some (rm_i m84 116 (x83 + 1).toNatClampNeg (nI a))).bind fun (m86 : rn_Mem) =>
                if rn_in (x83 + 2) 101 = true then
                  (some (rm_i m86 116 (x83 + 2).toNatClampNeg (nI b))).bind fun (m88 : rn_Mem) =>
                  if rn_in (x83 + 3) 101 = true then
                    (some (rm_i m88 116 (x83 + 3).toNatClampNeg (nI c))).bind fun (m90 : rn_Mem) =>
                    (some (rm_i m90 116 10 ((m90.1 116 10) + 1))).bind fun (m92 : rn_Mem) =>
                    some ((m92.1 116 10) - 1, m92)
                  else none
                else none
              else none
            else none) = mcl S k a b c m := by
  unfold mcl
  rw [hz]
  by_cases g : S 10 = 6
  · rw [if_pos g, if_pos (by rw [g]; rfl)]
  rw [if_neg g, if_neg (by rw [k6, nI_eq (by omega) (by omega)]; exact g)]
  simp (disch := omega) only [Option.bind_some, k64, k4, k1, k2, k3, pk_mul, nI_add, in_n, nI_n]
  rw [if_pos (by omega), if_pos (by omega), if_pos (by omega), if_pos (by omega)]
  simp only [mi_get]
  simp (disch := omega) only [if_neg, if_pos, true_and, if_true]
  rw [hz]
  simp (disch := omega) only [nI_add, pk_sub]
  rw [show 64 + 4 * S 10 + 1 = 65 + 4 * S 10 by omega, show 64 + 4 * S 10 + 2 = 66 + 4 * S 10 by omega, show 64 + 4 * S 10 + 3 = 67 + 4 * S 10 by omega, show S 10 + 1 - 1 = S 10 by omega]
theorem mo_clue_y {n k a b c : Nat} {m : rn_Mem} {S : Nat → Nat} (hs : Sd k a b c) (wg : WG S) (h10 : S 10 ≤ 6) (hz : zOK S (m.1 116)) (h0 : S 0 = 1) : (Ft S k a b c → mo_clue n (nI k) (nI a) (nI b) (nI c) m = mcl S k a b c m) ∧ (¬ Ft S k a b c → mo_clue n (nI k) (nI a) (nI b) (nI c) m = some (-1, m)) := by
  have hn := wg.2.1
  have hn1 := wg.1
  have ht := wg.2.2.2.1
  have hP := wg.2.2.2.2.2.1
  have z0 : ¬ m.1 116 0 = 0 := by rw [zOK_at hz (k := 0) (by omega) (by omega) (by omega) (by omega), h0]; decide
  have z1 : m.1 116 1 = nI (S 1) := zOK_at hz (by omega) (by omega) (by omega) (by omega)
  have z2 : m.1 116 2 = nI (S 2) := zOK_at hz (by omega) (by omega) (by omega) (by omega)
  have z3 : m.1 116 3 = nI (S 3) := zOK_at hz (by omega) (by omega) (by omega) (by omega)
  have z10 : m.1 116 10 = nI (S 10) := zOK_at hz (by omega) (by omega) (by omega) (by omega)
  rw [← mcl_eq h10 z10]
  unfold mo_clue Ft
  rcases hs with ⟨rfl, h⟩ | ⟨rfl, h⟩ | ⟨rfl, h⟩ | ⟨rfl, h⟩
  · have ha : (0 : Int) ≤ (nI a).toInt ∧ (nI a).toInt ≤ 3 := by rw [nI_int (by omega)]; omega
    have hb : (0 : Int) ≤ (nI b).toInt ∧ (nI b).toInt ≤ 15 := by rw [nI_int (by omega)]; omega
    have hc : (0 : Int) ≤ (nI c).toInt ∧ (nI c).toInt ≤ 0 := by rw [nI_int (by omega)]; omega
    simp only [if_pos (show nI 0 = 0 from rfl), Option.bind_some, mo_in_j, Int32.toInt_toInt64, j0, j1, j2, j3, j7, j8, j11, j12, j15, j29, jm1, if_pos ha, if_pos hb, if_neg (show ¬ (1 : Int32) = 0 by decide)]
    simp only [if_neg (show ¬ nI 0 = 3 by decide), Option.bind_some, mo_in_j, Int32.toInt_toInt64, j0, j1, j2, j3, j7, j8, j11, j12, j15, j29, jm1, if_pos hc, if_neg (show ¬ (1 : Int32) = 0 by decide)]
    rw [if_neg z0]
    rw [if_neg (show ¬ nI 0 = 2 by decide), mo_isChair_eq n S (nI a) m z1 (by omega), nI_int (show a < 2 ^ 31 by omega)]
    simp only [Option.bind_some]
    by_cases q1 : a < S 1
    · rw [if_pos (show (0 : Int) ≤ a ∧ (a : Int) < S 1 by omega), if_neg (show ¬ (1 : Int32) = 0 by decide), mo_isInPack_eq n S b m (by omega) z3 hP]
      cases q2 : (S 3).testBit b
      · exact ⟨fun z => by rcases z with z | z | z | z <;> first | (exact absurd z.2.2 (by decide)) | omega, fun _ => rfl⟩
      · exact ⟨fun _ => rfl, fun z => absurd (Or.inl ⟨by trivial, q1, by trivial⟩) z⟩
    · rw [if_neg (show ¬ ((0 : Int) ≤ a ∧ (a : Int) < S 1) by omega)]
      exact ⟨fun z => by rcases z with z | z | z | z <;> omega, fun _ => rfl⟩
  · have ha : (0 : Int) ≤ (nI a).toInt ∧ (nI a).toInt ≤ 3 := by rw [nI_int (by omega)]; omega
    have hb : (0 : Int) ≤ (nI b).toInt ∧ (nI b).toInt ≤ 3 := by rw [nI_int (by omega)]; omega
    have hc : (0 : Int) ≤ (nI c).toInt ∧ (nI c).toInt ≤ 0 := by rw [nI_int (by omega)]; omega
    simp only [if_neg (show ¬ nI 1 = 0 by decide), if_pos (show nI 1 = 1 from rfl), Option.bind_some, mo_in_j, Int32.toInt_toInt64, j0, j1, j2, j3, j7, j8, j11, j12, j15, j29, jm1, if_pos ha, if_pos hb, if_neg (show ¬ (1 : Int32) = 0 by decide)]
    simp only [if_neg (show ¬ nI 1 = 3 by decide), Option.bind_some, mo_in_j, Int32.toInt_toInt64, j0, j1, j2, j3, j7, j8, j11, j12, j15, j29, jm1, if_pos hc, if_neg (show ¬ (1 : Int32) = 0 by decide)]
    rw [if_neg z0]
    rw [if_neg (show ¬ nI 1 = 2 by decide), mo_isChair_eq n S (nI a) m z1 (by omega), nI_int (show a < 2 ^ 31 by omega)]
    simp only [Option.bind_some]
    by_cases q1 : a < S 1
    · rw [if_pos (show (0 : Int) ≤ a ∧ (a : Int) < S 1 by omega), if_neg (show ¬ (1 : Int32) = 0 by decide), z2]
      by_cases q2 : b < S 2
      · rw [if_pos ((nI_ltI (by omega) (by omega)).mpr q2)]
        exact ⟨fun _ => rfl, fun z => absurd (Or.inr (Or.inl ⟨by trivial, q1, q2⟩)) z⟩
      · rw [if_neg (mt (nI_ltI (by omega) (by omega)).mp q2)]
        exact ⟨fun z => by rcases z with z | z | z | z <;> omega, fun _ => rfl⟩
    · rw [if_neg (show ¬ ((0 : Int) ≤ a ∧ (a : Int) < S 1) by omega)]
      exact ⟨fun z => by rcases z with z | z | z | z <;> omega, fun _ => rfl⟩
  · have ha : (0 : Int) ≤ (nI a).toInt ∧ (nI a).toInt ≤ 15 := by rw [nI_int (by omega)]; omega
    have hb : (0 : Int) ≤ (nI b).toInt ∧ (nI b).toInt ≤ 15 := by rw [nI_int (by omega)]; omega
    have hc : (0 : Int) ≤ (nI c).toInt ∧ (nI c).toInt ≤ 0 := by rw [nI_int (by omega)]; omega
    have hab : ¬ nI a = nI b := by rw [nI_eq (by omega) (by omega)]; exact h.2.2.1
    simp only [if_neg (show ¬ nI 2 = 0 by decide), if_neg (show ¬ nI 2 = 1 by decide), if_pos (show nI 2 = 2 from rfl), Option.bind_some, mo_in_j, Int32.toInt_toInt64, j0, j1, j2, j3, j7, j8, j11, j12, j15, j29, jm1, if_pos ha, if_pos hb, if_neg hab, if_neg (show ¬ (1 : Int32) = 0 by decide)]
    simp only [if_neg (show ¬ nI 2 = 3 by decide), Option.bind_some, mo_in_j, Int32.toInt_toInt64, j0, j1, j2, j3, j7, j8, j11, j12, j15, j29, jm1, if_pos hc, if_neg (show ¬ (1 : Int32) = 0 by decide)]
    rw [if_neg z0]
    rw [mo_isInPack_eq n S a m (by omega) z3 hP]
    simp only [Option.bind_some]
    cases q1 : (S 3).testBit a
    · exact ⟨fun z => by rcases z with z | z | z | z <;> first | (exact absurd z.2.1 (by decide)) | omega, fun _ => rfl⟩
    · rw [if_pos rfl, if_neg (show ¬ (1 : Int32) = 0 by decide), mo_isInPack_eq n S b m (by omega) z3 hP]
      cases q2 : (S 3).testBit b
      · exact ⟨fun z => by rcases z with z | z | z | z <;> first | (exact absurd z.2.2 (by decide)) | omega, fun _ => rfl⟩
      · exact ⟨fun _ => rfl, fun z => absurd (Or.inr (Or.inr (Or.inl ⟨by trivial, by trivial, by trivial⟩))) z⟩
  · have ha : (0 : Int) ≤ (nI a).toInt ∧ (nI a).toInt ≤ 3 := by rw [nI_int (by omega)]; omega
    have hb : (0 : Int) ≤ (nI b).toInt ∧ (nI b).toInt ≤ 3 := by rw [nI_int (by omega)]; omega
    have hc : (0 : Int) ≤ (nI c).toInt ∧ (nI c).toInt ≤ 3 := by rw [nI_int (by omega)]; omega
    simp only [if_neg (show ¬ nI 3 = 0 by decide), if_neg (show ¬ nI 3 = 1 by decide), if_neg (show ¬ nI 3 = 2 by decide), if_pos (show nI 3 = 3 from rfl), Option.bind_some, mo_in_j, Int32.toInt_toInt64, j0, j1, j2, j3, j7, j8, j11, j12, j15, j29, jm1, if_pos ha, if_pos hb, if_neg (show ¬ (1 : Int32) = 0 by decide)]
    simp only [Option.bind_some, mo_in_j, Int32.toInt_toInt64, j0, j1, j2, j3, j7, j8, j11, j12, j15, j29, jm1, if_pos hc, if_neg (show ¬ (1 : Int32) = 0 by decide)]
    rw [if_neg z0]
    rw [mo_isChair_eq n S (nI a) m z1 (by omega), nI_int (show a < 2 ^ 31 by omega)]
    simp only [Option.bind_some]
    by_cases q1 : a < S 1
    · rw [if_pos (show (0 : Int) ≤ a ∧ (a : Int) < S 1 by omega), if_neg (show ¬ (1 : Int32) = 0 by decide), z2]
      by_cases q2 : c < S 2
      · rw [if_pos ((nI_ltI (by omega) (by omega)).mpr q2)]
        exact ⟨fun _ => rfl, fun z => absurd (Or.inr (Or.inr (Or.inr ⟨by trivial, q1, q2⟩))) z⟩
      · rw [if_neg (mt (nI_ltI (by omega) (by omega)).mp q2)]
        exact ⟨fun z => by rcases z with z | z | z | z <;> omega, fun _ => rfl⟩
    · rw [if_neg (show ¬ ((0 : Int) ≤ a ∧ (a : Int) < S 1) by omega)]
      exact ⟨fun z => by rcases z with z | z | z | z <;> omega, fun _ => rfl⟩
def Pcl (p i : Nat) : Prop := (9 ≤ p ∧ p ≤ 13) ∨ (p = 0 ∧ i = 8)
/-- one more clue -/
def Sc (S : Nat → Nat) (k a b c : Nat) : Nat → Nat := sv (sv (sv (sv (sv S (64 + 4 * S 10) k) (65 + 4 * S 10) a) (66 + 4 * S 10) b) (67 + 4 * S 10) c) 10 (S 10 + 1)
theorem Sc_o {S : Nat → Nat} {k a b c j : Nat} (h1 : j ≠ 10) (h2 : j < 64 + 4 * S 10 ∨ 68 + 4 * S 10 ≤ j) : Sc S k a b c j = S j := by
  unfold Sc
  rw [sv_n h1, sv_n (by omega), sv_n (by omega), sv_n (by omega), sv_n (by omega)]
theorem Sc_in {S : Nat → Nat} {k a b c : Nat} : Sc S k a b c (64 + 4 * S 10) = k ∧ Sc S k a b c (65 + 4 * S 10) = a ∧ Sc S k a b c (66 + 4 * S 10) = b ∧ Sc S k a b c (67 + 4 * S 10) = c ∧ Sc S k a b c 10 = S 10 + 1 := by
  unfold Sc
  refine ⟨?_, ?_, ?_, ?_, sv_s⟩
  · rw [sv_n (by omega), sv_n (by omega), sv_n (by omega), sv_n (by omega), sv_s]
  · rw [sv_n (by omega), sv_n (by omega), sv_n (by omega), sv_s]
  · rw [sv_n (by omega), sv_n (by omega), sv_s]
  · rw [sv_n (by omega), sv_s]
theorem Sc_WF {S : Nat → Nat} {k a b c : Nat} (hw : WF S) (h0 : S 0 = 1) (hs : Sd k a b c) (hf : Ft S k a b c) (h6 : S 10 < 6) : WF (Sc S k a b c) := by
  obtain ⟨wg, wt, wc, wr⟩ := WF_1 hw h0
  have hn := wg.2.1
  have o : ∀ j, j ≠ 10 → (j < 64 ∨ 88 ≤ j) → Sc S k a b c j = S j := fun j h1 h2 => Sc_o h1 (by omega)
  refine Or.inr ⟨by rw [o 0 (by omega) (by omega)]; exact h0, ?_, ?_, ?_, ?_⟩
  · unfold WG at *
    simp (disch := omega) only [o]
    exact wg
  · have h9 : Sc S k a b c 9 = S 9 := o 9 (by omega) (by omega)
    unfold WT uc at *
    rw [h9]
    refine ⟨wt.1, fun q => ?_⟩
    have hH : ∀ d, d < S 1 → S (12 + d) ≤ 12 := fun d hd => hp_le wg (by unfold WT uc; exact wt) q hd
    rw [o 1 (by omega) (by omega), o 2 (by omega) (by omega), o 3 (by omega) (by omega)]
    have oh : ∀ d, d < S 1 → Sc S k a b c (12 + d) = S (12 + d) := fun d hd => o _ (by omega) (by omega)
    have oc : ∀ d i, d < S 1 → i < S (12 + d) → Sc S k a b c (16 + 12 * d + i) = S (16 + 12 * d + i) := fun d i hd hi => o _ (by omega) (by have := hH d hd; omega)
    obtain ⟨t1, t2, t3, t4, t5⟩ := wt.2 q
    refine ⟨fun d hd => by rw [oh d hd]; exact t1 d hd, ?_, fun d i hd hi => ?_, fun d i e j hd hi he hj q1 q2 => ?_, ?_⟩
    · rw [fb_sm_cong (g := fun c => S (12 + c)) (fun d hd => oh d hd)]; exact t2
    · rw [oh d hd] at hi
      rw [oc d i hd hi]; exact t3 d i hd hi
    · rw [oh d hd] at hi
      rw [oh e he] at hj
      rw [oc d i hd hi] at q1 q2
      rw [oc e j he hj] at q2
      exact t4 d i e j hd hi he hj q1 q2
    · rw [fb_sm_cong (g := fun c => fb_ct (fun i => decide (16 ≤ S (16 + 12 * c + i))) (S (12 + c))) (fun d hd => ?_)]
      · exact t5
      · rw [oh d hd]
        exact fb_ct_cong fun i hi => by rw [oc d i hd hi]
  · obtain ⟨i1, i2, i3, i4, i5⟩ := Sc_in (S := S) (k := k) (a := a) (b := b) (c := c)
    unfold WC
    rw [i5]
    refine ⟨by omega, fun j hj => ?_⟩
    unfold WK
    rw [o 1 (by omega) (by omega), o 2 (by omega) (by omega), o 3 (by omega) (by omega)]
    by_cases q : j = S 10
    · subst q
      rw [i1, i2, i3, i4]
      rcases hs with ⟨rfl, h⟩ | ⟨rfl, h⟩ | ⟨rfl, h⟩ | ⟨rfl, h⟩
      · rcases hf with z | z | z | z <;> first | omega | exact Or.inl ⟨rfl, z.2.1, h.2.1, z.2.2, by omega⟩
      · rcases hf with z | z | z | z <;> first | omega | exact Or.inr (Or.inl ⟨rfl, z.2.1, z.2.2, by omega⟩)
      · rcases hf with z | z | z | z <;> first | omega | exact Or.inr (Or.inr (Or.inl ⟨rfl, h.1, z.2.1, h.2.1, z.2.2, h.2.2.1, by omega⟩))
      · rcases hf with z | z | z | z <;> first | omega | exact Or.inr (Or.inr (Or.inr ⟨rfl, z.2.1, h.2.1, z.2.2⟩))
    · have hj2 : j < S 10 := by omega
      rw [Sc_o (j := 64 + 4 * j) (by omega) (by omega), Sc_o (j := 65 + 4 * j) (by omega) (by omega), Sc_o (j := 66 + 4 * j) (by omega) (by omega), Sc_o (j := 67 + 4 * j) (by omega) (by omega)]
      exact wc.2 j hj2
  · unfold WR at *
    simp (disch := omega) only [o]
    exact wr
theorem Sl_c {S S2 : Nat → Nat} (h : ∀ j, (j = 1 ∨ j = 4 ∨ j = 6 ∨ 88 ≤ j) → S2 j = S j) : Sp S2 = Sp S ∧ Sw S2 = Sw S ∧ Sl S2 = Sl S := by
  unfold Sp Sw Sl
  simp (disch := omega) only [h]
  exact ⟨trivial, trivial, trivial⟩
theorem cRo_c {S S2 V : Nat → Nat} {t a b c d : Nat → Int32} (h : ∀ j, (j = 1 ∨ j = 2 ∨ j = 4 ∨ j = 6 ∨ j = 11 ∨ 88 ≤ j) → S2 j = S j) (w : cRo S V t a b c d) : cRo S2 V t a b c d := by
  obtain ⟨s1, s2, s3⟩ := Sl_c (S := S) (S2 := S2) (fun j hj => h j (by omega))
  unfold cRo at *
  rw [s1, s2]
  simp (disch := omega) only [h]
  exact w
theorem C_clue (S V : Nat → Nat) (m : rn_Mem) (hw : WF S) (hc : cSt S V 3 m) (k a b c : Int32) :
    (∃ r, (∀ n, lt_clue n k a b c m = some (r, m)) ∧ ∀ n m1, zOK S (m1.1 116) → mo_clue n k a b c m1 = some (r, m1)) ∨
    (∃ r S2 m1, (∀ n, lt_clue n k a b c m = some (r, m1)) ∧ WF S2 ∧ cSt S2 V 3 m1 ∧ (∀ j, j = 1 ∨ j = 4 ∨ j = 6 ∨ 88 ≤ j → S2 j = S j) ∧ m1.1 0 8 = 0 ∧ Kq Pcl m m1 ∧ ∀ n m', zOK S (m'.1 116) → ∃ m2, mo_clue n k a b c m' = some (r, m2) ∧ zOK S2 (m2.1 116) ∧ Kr (fun p => p = 116) m' m2) := by
  obtain ⟨⟨g0, g1⟩, c2, ⟨c30, c31⟩, c4⟩ := hc
  by_cases hl : SD k a b c
  case neg =>
    refine Or.inl ⟨-1, fun n => ?_, fun n m1 _ => mo_clue_n hl⟩
    unfold lt_clue
    rw [cl_sound_n hl]
    rfl
  obtain ⟨k, a, b, c, rfl, rfl, rfl, rfl, hs⟩ := SD_n hl
  rcases S0_01 hw with h0 | h0
  · refine Or.inl ⟨-2, fun n => ?_, fun n m1 hz => mo_clue_0 hs (by rw [zOK_at hz (by omega) (by omega) (by omega) (by omega), h0]; rfl)⟩
    unfold lt_clue
    rw [cl_sound_y hs]
    simp only [Option.bind_some]
    rw [if_neg (by decide), if_pos (by rw [g0, h0]; rfl)]
  obtain ⟨wg, wt, wc, wr⟩ := WF_1 hw h0
  obtain ⟨e1, e2, e3, _⟩ := g1 h0
  have h6 := wc.1
  have hg0 : ¬ m.1 4 0 = 0 := by rw [show m.1 4 0 = nI (S 0) from g0, h0]; decide
  have hL : ∀ n, lt_clue n (nI k) (nI a) (nI b) (nI c) m = (cl_fits n 4 (nI k) (nI a) (nI b) (nI c) m).bind fun (r7, m6) => if r7 = 0 then some (-1, m6) else if (m6.1 9 0) < 6 then (some (rm_i m6 0 8 0)).bind fun (m11 : rn_Mem) => (cl_add n 9 (nI k) (nI a) (nI b) (nI c) m11).bind fun (r13, m12) => some (r13, m12) else some (-3, m6) := by
    intro n
    unfold lt_clue
    rw [cl_sound_y hs]
    simp only [Option.bind_some]
    rw [if_neg (by decide), if_neg hg0]
  by_cases hf : Ft S k a b c
  case neg =>
    refine Or.inl ⟨-1, fun n => ?_, fun n m1 hz => (mo_clue_y hs wg h6 hz h0).2 hf⟩
    rw [hL, (cl_fits_sp hs wg e1 e2 e3).2 hf]
    rfl
  have h90 : m.1 9 0 = nI (S 10) := c30
  have hL2 : ∀ n, lt_clue n (nI k) (nI a) (nI b) (nI c) m = if nI (S 10) < 6 then (cl_add n 9 (nI k) (nI a) (nI b) (nI c) (rm_i m 0 8 0)).bind fun (r13, m12) => some (r13, m12) else some (-3, m) := by
    intro n
    rw [hL, (cl_fits_sp hs wg e1 e2 e3).1 hf]
    simp only [Option.bind_some]
    rw [if_neg (by decide), h90]
  by_cases g6 : S 10 = 6
  · refine Or.inl ⟨-3, fun n => ?_, fun n m1 hz => ?_⟩
    · rw [hL2, if_neg (by rw [k6, nI_ltI (by omega) (by omega)]; omega)]
    · rw [(mo_clue_y hs wg h6 hz h0).1 hf]
      unfold mcl
      rw [if_pos g6]
  have g6 : S 10 < 6 := by omega
  have hr : ∀ n, lt_clue n (nI k) (nI a) (nI b) (nI c) m = some (nI (S 10), rm_i (rm_i (rm_i (rm_i (rm_i (rm_i m 0 8 0) 10 (S 10) (nI k)) 11 (S 10) (nI a)) 12 (S 10) (nI b)) 13 (S 10) (nI c)) 9 0 (nI (S 10 + 1))) := by
    intro n
    rw [hL2, if_pos (by rw [k6, nI_ltI (by omega) (by omega)]; omega)]
    have q : (rm_i m 0 8 0).1 9 0 = nI (S 10) := by rw [mi_get, if_neg (by omega)]; exact h90
    unfold cl_add
    rw [q]
    simp (disch := omega) only [Option.bind_some, k6, nI_ltI, in_n, nI_n, if_pos]
    simp only [mi_get]
    simp (disch := omega) only [if_neg]
    rw [h90, nI_1]
  obtain ⟨i1, i2, i3, i4, i5⟩ := Sc_in (S := S) (k := k) (a := a) (b := b) (c := c)
  have o : ∀ j, j ≠ 10 → (j < 64 ∨ 88 ≤ j) → Sc S k a b c j = S j := fun j h1 h2 => Sc_o h1 (by omega)
  have hk : ∀ p, p ≠ 0 → (p < 9 ∨ 13 < p) → (rm_i (rm_i (rm_i (rm_i (rm_i (rm_i m 0 8 0) 10 (S 10) (nI k)) 11 (S 10) (nI a)) 12 (S 10) (nI b)) 13 (S 10) (nI c)) 9 0 (nI (S 10 + 1))).1 p = m.1 p := by
    intro p q1 q2
    funext j
    simp only [mi_get]
    rw [if_neg (by omega), if_neg (by omega), if_neg (by omega), if_neg (by omega), if_neg (by omega), if_neg (by omega)]
  refine Or.inr ⟨nI (S 10), Sc S k a b c, _, hr, Sc_WF hw h0 hs hf g6, ⟨?_, ?_, ?_, ?_⟩, fun j hj => o j (by omega) (by omega), ?_, ?_, ?_⟩
  · rw [hk (3 + 1) (by omega) (by omega)]
    unfold cGa
    simp (disch := omega) only [o]
    exact ⟨g0, g1⟩
  · rw [hk (3 + 2) (by omega) (by omega), hk (3 + 3) (by omega) (by omega), hk (3 + 4) (by omega) (by omega), hk (3 + 5) (by omega) (by omega)]
    obtain ⟨t1, t2⟩ := c2
    have h9 : Sc S k a b c 9 = S 9 := o 9 (by omega) (by omega)
    refine ⟨by rw [h9]; exact t1, fun q => ?_⟩
    rw [h9] at q
    have hn := wg.2.1
    have hH : ∀ d, d < S 1 → S (12 + d) ≤ 12 := fun d hd => hp_le wg wt q hd
    have oh : ∀ d, d < S 1 → Sc S k a b c (12 + d) = S (12 + d) := fun d hd => o _ (by omega) (by omega)
    have oc : ∀ d i, d < S 1 → i < S (12 + d) → Sc S k a b c (16 + 12 * d + i) = S (16 + 12 * d + i) := fun d i hd hi => o _ (by omega) (by have := hH d hd; omega)
    have hu : uc (Sc S k a b c) = uc S := by
      unfold uc
      rw [o 1 (by omega) (by omega)]
      refine fb_sm_cong fun d hd => ?_
      rw [oh d hd]
      exact fb_ct_cong fun i hi => by rw [oc d i hd hi]
    obtain ⟨f1, f2, f3, B, f4, f5, f6⟩ := t2 q
    rw [hu, o 1 (by omega) (by omega)]
    refine ⟨fun d hd => by rw [oh d hd]; exact f1 d hd, fun d i hd hi => ?_, f3, B, f4, f5, fun x hx => ?_⟩
    · rw [oh d hd] at hi
      rw [oc d i hd hi]; exact f2 d i hd hi
    · rw [f6 x hx]
      constructor
      · rintro ⟨d, i, hd, hi, e⟩
        exact ⟨d, i, hd, by rw [oh d hd]; exact hi, by rw [oc d i hd hi]; exact e⟩
      · rintro ⟨d, i, hd, hi, e⟩
        rw [oh d hd] at hi
        rw [oc d i hd hi] at e
        exact ⟨d, i, hd, hi, e⟩
  · refine ⟨?_, fun j hj => ?_⟩
    · rw [i5]
      simp (disch := omega) only [mi_get, mc_get, mi_2, mc_2, mj_1, mj_get, if_pos, if_neg, true_and, and_true, if_true, and_self]
    · rw [i5] at hj
      by_cases q : j = S 10
      · subst q
        rw [i1, i2, i3, i4]
        refine ⟨?_, ?_, ?_, ?_⟩ <;> (simp only [mi_get]; simp (disch := omega) only [if_neg, if_pos, true_and, and_true, if_true])
      · obtain ⟨f1, f2, f3, f4⟩ := c31 j (by omega)
        rw [Sc_o (j := 64 + 4 * j) (by omega) (by omega), Sc_o (j := 65 + 4 * j) (by omega) (by omega), Sc_o (j := 66 + 4 * j) (by omega) (by omega), Sc_o (j := 67 + 4 * j) (by omega) (by omega)]
        refine ⟨?_, ?_, ?_, ?_⟩
        · simp only [mi_get]; simp (disch := omega) only [if_neg]; exact f1
        · simp only [mi_get]; simp (disch := omega) only [if_neg]; exact f2
        · simp only [mi_get]; simp (disch := omega) only [if_neg]; exact f3
        · simp only [mi_get]; simp (disch := omega) only [if_neg]; exact f4
  · rw [hk (3 + 11) (by omega) (by omega), hk (3 + 12) (by omega) (by omega), hk (3 + 13) (by omega) (by omega), hk (3 + 14) (by omega) (by omega), hk (3 + 15) (by omega) (by omega)]
    exact cRo_c (fun j hj => o j (by omega) (by omega)) c4
  · simp (disch := omega) only [mi_get, mc_get, mi_2, mc_2, mj_1, mj_get, if_pos, if_neg, true_and, and_true, if_true, and_self]
  · refine ⟨fun p i hp => ?_, rfl⟩
    unfold Pcl at hp
    simp only [mi_get]
    rw [if_neg (by omega), if_neg (by omega), if_neg (by omega), if_neg (by omega), if_neg (by omega), if_neg (by omega)]
  · intro n m' hz
    refine ⟨_, by rw [(mo_clue_y hs wg h6 hz h0).1 hf]; unfold mcl; rw [if_neg (by omega)], ?_, ((((Kr.rf.sti (by exact rfl)).sti (by exact rfl)).sti (by exact rfl)).sti (by exact rfl)).sti (by exact rfl)⟩
    have hr2 : ∀ j, j ≠ 10 → (j < 64 + 4 * S 10 ∨ 68 + 4 * S 10 ≤ j) → (rm_i (rm_i (rm_i (rm_i (rm_i m' 116 (64 + 4 * S 10) (nI k)) 116 (65 + 4 * S 10) (nI a)) 116 (66 + 4 * S 10) (nI b)) 116 (67 + 4 * S 10) (nI c)) 116 10 (nI (S 10 + 1))).1 116 j = m'.1 116 j := by
      intro j q1 q2
      simp only [mi_get]
      rw [if_neg (by omega), if_neg (by omega), if_neg (by omega), if_neg (by omega), if_neg (by omega)]
    obtain ⟨z1, z2, z3, z4⟩ := hz
    refine ⟨fun j k1 k2 k3 k4 => ?_, ?_, ?_, fun j k1 k2 => ?_⟩
    · by_cases q : j ≠ 10 ∧ (j < 64 + 4 * S 10 ∨ 68 + 4 * S 10 ≤ j)
      · rw [hr2 j q.1 q.2, Sc_o q.1 q.2]; exact z1 j k1 k2 k3 k4
      · obtain rfl | rfl | rfl | rfl | rfl : j = 10 ∨ j = 64 + 4 * S 10 ∨ j = 65 + 4 * S 10 ∨ j = 66 + 4 * S 10 ∨ j = 67 + 4 * S 10 := by omega
        · rw [i5]; simp only [mi_get]; simp (disch := omega) only [if_neg, if_pos, true_and, and_true, if_true]
        · rw [i1]; simp only [mi_get]; simp (disch := omega) only [if_neg, if_pos, true_and, and_true, if_true]
        · rw [i2]; simp only [mi_get]; simp (disch := omega) only [if_neg, if_pos, true_and, and_true, if_true]
        · rw [i3]; simp only [mi_get]; simp (disch := omega) only [if_neg, if_pos, true_and, and_true, if_true]
        · rw [i4]; simp only [mi_get]; simp (disch := omega) only [if_neg, if_pos, true_and, and_true, if_true]
    · rw [hr2 4 (by omega) (by omega), o 4 (by omega) (by omega)]; exact z2
    · rw [hr2 8 (by omega) (by omega), o 8 (by omega) (by omega)]; exact z3
    · rw [hr2 j (by omega) (by omega), o j (by omega) (by omega)]; exact z4 j k1 k2
