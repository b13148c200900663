/-! THE GAME: told, set, forget -/
/-- a law that may be none: a negative number in the class, -4 in the reference -/
def sg (a b : Int32) : Prop := (0 ≤ a.toInt ∧ a = b) ∨ (a.toInt < 0 ∧ b = -4)
/-- the game in a row z of the reference, at place q -/
def Wg (q : Nat) (m : rn_Mem) : Prop := ∃ c t P : Nat, 2 ≤ c ∧ c ≤ 4 ∧ 1 ≤ t ∧ t ≤ 4 ∧ c * t ≤ 12 ∧ P < 65536 ∧ m.1 q 1 = nI c ∧ m.1 q 2 = nI t ∧ m.1 q 3 = nI P ∧ ((m.1 q 4 = -4) ∨ (0 ≤ (m.1 q 4).toInt ∧ (m.1 q 4).toInt ≤ 3)) ∧ (0 ≤ (m.1 q 5).toInt ∧ (m.1 q 5).toInt ≤ 2) ∧ (0 ≤ (m.1 q 6).toInt ∧ (m.1 q 6).toInt ≤ 1) ∧ (0 ≤ (m.1 q 7).toInt ∧ (m.1 q 7).toInt ≤ 1) ∧ ((m.1 q 8 = -4) ∨ (0 ≤ (m.1 q 8).toInt ∧ (m.1 q 8).toInt < c))
/-- the class's Game at place g against the row at place q -/
def Rga (g q : Nat) (m : rn_Mem) : Prop := m.1 g 0 = m.1 q 0 ∧ (m.1 q 0 = 0 ∨ m.1 q 0 = 1) ∧ (m.1 q 0 = 1 → Wg q m ∧ m.1 g 1 = m.1 q 1 ∧ m.1 g 2 = m.1 q 2 ∧ m.1 g 3 = m.1 q 3 ∧ sg (m.1 g 4) (m.1 q 4) ∧ m.1 g 5 = m.1 q 5 ∧ m.1 g 6 = m.1 q 6 ∧ m.1 g 7 = m.1 q 7 ∧ sg (m.1 g 8) (m.1 q 8))
theorem sg_ans {a b : Int32} (h : sg a b) : (if a < 0 then (-4 : Int32) else a) = b := by
  rcases h with ⟨h1, h2⟩ | ⟨h1, h2⟩
  · rw [if_neg (by rw [i_lt, show (0 : Int32).toInt = 0 by decide]; omega), h2]
  · rw [if_pos (by rw [i_lt, show (0 : Int32).toInt = 0 by decide]; omega), h2]
theorem pos_ans {a b : Int32} (h : a = b) (h0 : 0 ≤ b.toInt) : (if a < 0 then (-4 : Int32) else a) = b := by
  rw [h, if_neg (by rw [i_lt, show (0 : Int32).toInt = 0 by decide]; omega)]
theorem L_told {n : Nat} (a : Int32) (m : rn_Mem) (hR : Rga 4 116 m) : ∃ r : Int32, lt_told n a m = some (r, m) ∧ mo_told n a m = some (r, m) := by
  obtain ⟨h1, h2, h3⟩ := hR
  by_cases ha : ¬ (0 ≤ a.toInt ∧ a.toInt ≤ 7)
  · refine ⟨-1, ?_, ?_⟩
    · unfold lt_told
      by_cases g : a < 0
      · rw [if_pos g]
      · rw [if_neg g, if_pos (by rw [i_lt, show (0 : Int32).toInt = 0 by decide] at g; rw [i_lt, show (7 : Int32).toInt = 7 by decide]; omega)]
    · unfold mo_told
      rw [mo_in_i n a 0 7 0 7 m (by decide) (by decide), if_neg ha]
      rfl
  have ha := Classical.not_not.mp ha
  have hlt : lt_told n a m = if m.1 4 0 = 0 then some (-2, m) else (ga_law n 4 a m).bind fun (r5, m4) => if r5 < 0 then some (-4, m4) else some (r5, m4) := by
    unfold lt_told
    rw [if_neg (by rw [i_lt, show (0 : Int32).toInt = 0 by decide]; omega), if_neg (by rw [i_lt, show (7 : Int32).toInt = 7 by decide]; omega)]
  have hmo : mo_told n a m = if m.1 116 0 = 0 then some (-2, m) else if rn_in ((1 : Int32) + a) 101 = true then some (m.1 116 ((1 : Int32) + a).toNatClampNeg, m) else none := by
    unfold mo_told
    rw [mo_in_i n a 0 7 0 7 m (by decide) (by decide), if_pos ha]
    simp only [Option.bind_some]
    rw [if_neg (by decide)]
  rw [hlt, hmo]
  rcases h2 with h2 | h2
  · exact ⟨-2, by rw [h1, if_pos h2], by rw [if_pos h2]⟩
  obtain ⟨⟨c, t, P, w1, w2, w3, w4, w5, w6, w7, w8, w9, w10, w11, w12, w13, w14⟩, e1, e2, e3, e4, e5, e6, e7, e8⟩ := h3 h2
  have hz : ¬ m.1 116 0 = 0 := by rw [h2]; decide
  have hx : ¬ m.1 4 0 = 0 := by rw [h1]; exact hz
  rw [if_neg hz, if_neg hx]
  obtain ⟨j, hj, rfl⟩ := i_nat (x := a) (k := 8) ha.1 (by omega)
  rw [show (1 : Int32) = nI 1 by decide, nI_add, if_pos (by rw [in_iff, nI_int (by omega)]; omega), nI_n (by omega)]
  have fin : ∀ (x y : Int32), (if x < 0 then (-4 : Int32) else x) = y → (if x < 0 then some (-4, m) else some (x, m)) = some (y, m) := by
    intro x y h
    rw [← h]
    split <;> rfl
  unfold ga_law
  match j, hj with
  | 0, _ => exact ⟨_, fin _ _ (pos_ans e1 (by rw [w7, nI_int (by omega)]; omega)), rfl⟩
  | 1, _ => exact ⟨_, fin _ _ (pos_ans e2 (by rw [w8, nI_int (by omega)]; omega)), rfl⟩
  | 2, _ => exact ⟨_, fin _ _ (pos_ans e3 (by rw [w9, nI_int (by omega)]; omega)), rfl⟩
  | 3, _ => exact ⟨_, fin _ _ (sg_ans e4), rfl⟩
  | 4, _ => exact ⟨_, fin _ _ (pos_ans e5 w11.1), rfl⟩
  | 5, _ => exact ⟨_, fin _ _ (pos_ans e6 w12.1), rfl⟩
  | 6, _ => exact ⟨_, fin _ _ (pos_ans e7 w13.1), rfl⟩
  | 7, _ => exact ⟨_, fin _ _ (sg_ans e8), rfl⟩
def Pfo (p i : Nat) : Prop := (p = 9 ∧ i = 0) ∨ (p = 0 ∧ i = 8) ∨ (p = 116 ∧ i = 10)
theorem L_forget {n : Nat} (m : rn_Mem) (hR : m.1 9 0 = m.1 116 10) : ∃ (r : Int32) (m1 m2 : rn_Mem), lt_forget n m = some (r, m1) ∧ mo_forget n m1 = some (r, m2) ∧ m2.1 9 0 = 0 ∧ m2.1 116 10 = 0 ∧ m2.1 0 8 = 0 ∧ Kq Pfo m m2 := by
  refine ⟨m.1 9 0, rm_i (rm_i m 9 0 0) 0 8 0, rm_i (rm_i (rm_i m 9 0 0) 0 8 0) 116 10 0, rfl, ?_, ?_, ?_, ?_, fun p i hp => ?_, rfl⟩
  · unfold mo_forget
    simp only [Option.bind_some, mi_get]
    simp (disch := omega) only [if_pos, if_neg, true_and, and_true, if_true]
    rw [hR]
  · simp only [mi_get]
    simp (disch := omega) only [if_pos, if_neg, true_and, and_true, if_true]
  · simp only [mi_get]
    simp (disch := omega) only [if_pos, if_neg, true_and, and_true, if_true]
  · simp only [mi_get]
    simp (disch := omega) only [if_pos, if_neg, true_and, and_true, if_true]
  · unfold Pfo at hp
    simp only [mi_get]
    simp (disch := omega) only [if_pos, if_neg, true_and, and_true, if_true]
