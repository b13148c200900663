/-! SET: the frame, one law changed -/
theorem neg_n {k : Nat} (h : k < 2 ^ 31) : -nI k = mI k := by
  rw [i_eq, fb_negI (by rw [nI_int h]; omega), nI_int h, mI_int h]
theorem k0 : (0 : Int32) = nI 0 := rfl
theorem k1 : (1 : Int32) = nI 1 := rfl
theorem k2 : (2 : Int32) = nI 2 := rfl
theorem k3 : (3 : Int32) = nI 3 := rfl
theorem k4 : (4 : Int32) = nI 4 := rfl
theorem k5 : (5 : Int32) = nI 5 := rfl
theorem k6 : (6 : Int32) = nI 6 := rfl
theorem k7 : (7 : Int32) = nI 7 := rfl
theorem k8 : (8 : Int32) = nI 8 := rfl
theorem k9 : (9 : Int32) = nI 9 := rfl
theorem k10 : (10 : Int32) = nI 10 := rfl
theorem k11 : (11 : Int32) = nI 11 := rfl
theorem k12 : (12 : Int32) = nI 12 := rfl
theorem k13 : (13 : Int32) = nI 13 := rfl
theorem k15 : (15 : Int32) = nI 15 := rfl
theorem k16 : (16 : Int32) = nI 16 := rfl
theorem k24 : (24 : Int32) = nI 24 := rfl
theorem k30 : (30 : Int32) = nI 30 := rfl
theorem k48 : (48 : Int32) = nI 48 := rfl
theorem k64 : (64 : Int32) = nI 64 := rfl
theorem k88 : (88 : Int32) = nI 88 := rfl
theorem k89 : (89 : Int32) = nI 89 := rfl
theorem k99 : (99 : Int32) = nI 99 := rfl
theorem k101 : (101 : Int32) = nI 101 := rfl
theorem j0 : (0 : Int64).toInt = 0 := by decide
theorem j1 : (1 : Int64).toInt = 1 := by decide
theorem j2 : (2 : Int64).toInt = 2 := by decide
theorem j3 : (3 : Int64).toInt = 3 := by decide
theorem j7 : (7 : Int64).toInt = 7 := by decide
theorem j8 : (8 : Int64).toInt = 8 := by decide
theorem j11 : (11 : Int64).toInt = 11 := by decide
theorem j12 : (12 : Int64).toInt = 12 := by decide
theorem j15 : (15 : Int64).toInt = 15 := by decide
theorem j29 : (29 : Int64).toInt = 29 := by decide
theorem jm1 : (-1 : Int64).toInt = -1 := by decide
theorem b10 {P : Prop} [Decidable P] (h : P) : ¬ (if P then (1 : Int32) else 0) = 0 := by
  rw [if_pos h]; decide
theorem b00 {P : Prop} [Decidable P] (h : ¬ P) : (if P then (1 : Int32) else 0) = 0 := by
  rw [if_neg h]
def sv (S : Nat → Nat) (k v : Nat) : Nat → Nat := fun j => if j = k then v else S j
theorem sv_s {S : Nat → Nat} {k v : Nat} : sv S k v k = v := by unfold sv; rw [if_pos rfl]
theorem sv_n {S : Nat → Nat} {k v j : Nat} (h : j ≠ k) : sv S k v j = S j := by unfold sv; rw [if_neg h]
theorem WT_c {S S2 : Nat → Nat} (h : ∀ k, (k = 1 ∨ k = 2 ∨ k = 3 ∨ k = 9 ∨ 12 ≤ k) → S2 k = S k) (w : WT S) : WT S2 := by
  unfold WT uc at *
  simp (disch := omega) only [h]
  exact w
theorem WC_c {S S2 : Nat → Nat} (h : ∀ k, (k = 1 ∨ k = 2 ∨ k = 3 ∨ k = 10 ∨ 12 ≤ k) → S2 k = S k) (w : WC S) : WC S2 := by
  unfold WC WK at *
  simp (disch := omega) only [h]
  exact w
theorem cTa_c {S S2 : Nat → Nat} {t a b c : Nat → Int32} (h : ∀ k, (k = 1 ∨ k = 9 ∨ 12 ≤ k) → S2 k = S k) (w : cTa S t a b c) : cTa S2 t a b c := by
  unfold cTa uc at *
  simp (disch := omega) only [h]
  exact w
theorem cCl_c {S S2 : Nat → Nat} {t a b c d : Nat → Int32} (h : ∀ k, (k = 10 ∨ 12 ≤ k) → S2 k = S k) (w : cCl S t a b c d) : cCl S2 t a b c d := by
  unfold cCl at *
  simp (disch := omega) only [h]
  exact w
theorem zOK_at {S : Nat → Nat} {z : Nat → Int32} (h : zOK S z) {k : Nat} (hk : k < 101) (h4 : k ≠ 4) (h8 : k ≠ 8) (hh : k < 16 ∨ 64 ≤ k) : z k = nI (S k) := h.1 k hk h4 h8 hh
def Lw (a b : Int32) : Prop := (a = 3 ∧ -1 ≤ b.toInt ∧ b.toInt ≤ 3) ∨ (a = 4 ∧ 0 ≤ b.toInt ∧ b.toInt ≤ 2) ∨ (a = 5 ∧ 0 ≤ b.toInt ∧ b.toInt ≤ 1) ∨ (a = 6 ∧ 0 ≤ b.toInt ∧ b.toInt ≤ 1) ∨ (a = 7 ∧ -1 ≤ b.toInt ∧ b.toInt ≤ 3)
theorem ga_lawful_n {n : Nat} {a b : Int32} {m : rn_Mem} (h : ¬ Lw a b) : ga_lawful n a b m = some (0, m) := by
  unfold Lw at h
  unfold ga_lawful
  simp only [i_lt, t0, t1, t2, t3, t4, t5, t6, t7, t11, t12, t15, t16, t30, t65535, tm1]
  repeat' split
  all_goals first | rfl | (exfalso; apply h; first | exact Or.inl ⟨‹a = 3›, by omega, by omega⟩ | exact Or.inr (Or.inl ⟨‹a = 4›, by omega, by omega⟩) | exact Or.inr (Or.inr (Or.inl ⟨‹a = 5›, by omega, by omega⟩)) | exact Or.inr (Or.inr (Or.inr (Or.inl ⟨‹a = 6›, by omega, by omega⟩))) | exact Or.inr (Or.inr (Or.inr (Or.inr ⟨‹a = 7›, by omega, by omega⟩))))
theorem ga_lawful_y {n : Nat} {a b : Int32} {m : rn_Mem} (h : Lw a b) : ga_lawful n a b m = some (1, m) := by
  unfold ga_lawful
  simp only [i_lt, t0, t1, t2, t3, t4, t5, t6, t7, t11, t12, t15, t16, t30, t65535, tm1]
  rcases h with ⟨rfl, h⟩ | ⟨rfl, h⟩ | ⟨rfl, h⟩ | ⟨rfl, h⟩ | ⟨rfl, h⟩
  · rw [if_pos rfl, if_neg (by omega), if_pos (by omega)]
  · rw [if_neg (by decide), if_pos rfl, if_neg (by omega), if_neg (by omega)]
  · rw [if_neg (by decide), if_neg (by decide), if_pos rfl, if_neg (by omega), if_neg (by omega)]
  · rw [if_neg (by decide), if_neg (by decide), if_neg (by decide), if_pos rfl, if_neg (by omega), if_neg (by omega)]
  · rw [if_neg (by decide), if_neg (by decide), if_neg (by decide), if_neg (by decide), if_pos rfl, if_neg (by omega), if_pos (by omega)]
theorem mo_set_n {n : Nat} {a b : Int32} {m : rn_Mem} (h : ¬ Lw a b) : mo_set n a b m = some (-1, m) := by
  unfold Lw at h
  unfold mo_set
  by_cases h3 : a = 3
  · subst h3
    simp only [if_true, Option.bind_some, mo_in_j, Int32.toInt_toInt64, j0, j1, j2, j3, j7, j8, j11, j12, j15, j29, jm1, t0, t1, t2, t3, t4, t5, t6, t7, t11, t12, t15, t16, t30, t65535, tm1]
    rw [if_neg (by decide), if_pos (b00 (show ¬ (-1 ≤ b.toInt ∧ b.toInt ≤ 3) from fun z => h (Or.inl ⟨rfl, z.1, z.2⟩)))]
  by_cases h7 : a = 7
  · subst h7
    simp only [if_neg h3, if_true, Option.bind_some, mo_in_j, Int32.toInt_toInt64, j0, j1, j2, j3, j7, j8, j11, j12, j15, j29, jm1, t0, t1, t2, t3, t4, t5, t6, t7, t11, t12, t15, t16, t30, t65535, tm1]
    rw [if_neg (by decide), if_pos (b00 (show ¬ (-1 ≤ b.toInt ∧ b.toInt ≤ 3) from fun z => h (Or.inr (Or.inr (Or.inr (Or.inr ⟨rfl, z.1, z.2⟩))))))]
  by_cases h4 : a = 4
  · subst h4
    simp only [if_neg h3, if_neg h7, if_true, Option.bind_some, mo_in_j, Int32.toInt_toInt64, j0, j1, j2, j3, j7, j8, j11, j12, j15, j29, jm1, t0, t1, t2, t3, t4, t5, t6, t7, t11, t12, t15, t16, t30, t65535, tm1]
    rw [if_neg (by decide), if_pos (b00 (show ¬ (0 ≤ b.toInt ∧ b.toInt ≤ 2) from fun z => h (Or.inr (Or.inl ⟨rfl, z.1, z.2⟩))))]
  simp only [if_neg h3, if_neg h7, if_neg h4, Option.bind_some, mo_in_j, Int32.toInt_toInt64, j0, j1, j2, j3, j7, j8, j11, j12, j15, j29, jm1, t0, t1, t2, t3, t4, t5, t6, t7, t11, t12, t15, t16, t30, t65535, tm1]
  by_cases g : 3 ≤ a.toInt ∧ a.toInt ≤ 7
  · rw [if_neg (b10 g), if_pos (b00 (show ¬ (0 ≤ b.toInt ∧ b.toInt ≤ 1) from ?_))]
    · intro z
      obtain ⟨j, hj, rfl⟩ := i_nat (x := a) (k := 8) (by omega) (by omega)
      rw [nI_int (by omega)] at g
      match j, hj with
      | 5, _ => exact h (Or.inr (Or.inr (Or.inl ⟨rfl, z.1, z.2⟩)))
      | 6, _ => exact h (Or.inr (Or.inr (Or.inr (Or.inl ⟨rfl, z.1, z.2⟩))))
      | 3, _ => exact h3 rfl
      | 4, _ => exact h4 rfl
      | 7, _ => exact h7 rfl
      | 0, _ => omega
      | 1, _ => omega
      | 2, _ => omega
  · rw [if_pos (b00 g)]
theorem mo_set_y {n : Nat} {a b : Int32} {m : rn_Mem} (h : Lw a b) (hz : m.1 116 0 = 1) (hc : a = 7 → b < m.1 116 1) : ∃ w, 4 ≤ w ∧ w ≤ 8 ∧ a = nI (w - 1) ∧ mo_set n a b m = some (1, rm_i (rm_i m 116 w (if b < 0 then -4 else b)) 116 11 0) := by
  have hz0 : ¬ m.1 116 0 = 0 := by rw [hz]; decide
  rcases h with ⟨rfl, h⟩ | ⟨rfl, h⟩ | ⟨rfl, h⟩ | ⟨rfl, h⟩ | ⟨rfl, h⟩
  · refine ⟨4, by omega, by omega, rfl, ?_⟩
    unfold mo_set
    simp only [if_true, Option.bind_some, mo_in_j, Int32.toInt_toInt64, j0, j1, j2, j3, j7, j8, j11, j12, j15, j29, jm1, t0, t1, t2, t3, t4, t5, t6, t7, t11, t12, t15, t16, t30, t65535, tm1]
    rw [if_neg (by decide), if_neg (b10 h), if_neg hz0, if_neg (by decide)]
    by_cases g : b < 0
    · simp only [if_pos g, Option.bind_some]
      rw [if_pos (by decide), show ((1 : Int32) + 3).toNatClampNeg = 4 by decide]
    · simp only [if_neg g, Option.bind_some]
      rw [if_pos (by decide), show ((1 : Int32) + 3).toNatClampNeg = 4 by decide]
  · refine ⟨5, by omega, by omega, rfl, ?_⟩
    unfold mo_set
    simp only [if_neg (show ¬ (4 : Int32) = 3 by decide), if_neg (show ¬ (4 : Int32) = 7 by decide), if_true, Option.bind_some, mo_in_j, Int32.toInt_toInt64, j0, j1, j2, j3, j7, j8, j11, j12, j15, j29, jm1, t0, t1, t2, t3, t4, t5, t6, t7, t11, t12, t15, t16, t30, t65535, tm1]
    rw [if_neg (by decide), if_neg (b10 h), if_neg hz0]
    by_cases g : b < 0
    · simp only [if_pos g, Option.bind_some]
      rw [if_pos (by decide), show ((1 : Int32) + 4).toNatClampNeg = 5 by decide]
    · simp only [if_neg g, Option.bind_some]
      rw [if_pos (by decide), show ((1 : Int32) + 4).toNatClampNeg = 5 by decide]
  · refine ⟨6, by omega, by omega, rfl, ?_⟩
    unfold mo_set
    simp only [if_neg (show ¬ (5 : Int32) = 3 by decide), if_neg (show ¬ (5 : Int32) = 7 by decide), if_neg (show ¬ (5 : Int32) = 4 by decide), Option.bind_some, mo_in_j, Int32.toInt_toInt64, j0, j1, j2, j3, j7, j8, j11, j12, j15, j29, jm1, t0, t1, t2, t3, t4, t5, t6, t7, t11, t12, t15, t16, t30, t65535, tm1]
    rw [if_neg (by decide), if_neg (b10 h), if_neg hz0]
    by_cases g : b < 0
    · simp only [if_pos g, Option.bind_some]
      rw [if_pos (by decide), show ((1 : Int32) + 5).toNatClampNeg = 6 by decide]
    · simp only [if_neg g, Option.bind_some]
      rw [if_pos (by decide), show ((1 : Int32) + 5).toNatClampNeg = 6 by decide]
  · refine ⟨7, by omega, by omega, rfl, ?_⟩
    unfold mo_set
    simp only [if_neg (show ¬ (6 : Int32) = 3 by decide), if_neg (show ¬ (6 : Int32) = 7 by decide), if_neg (show ¬ (6 : Int32) = 4 by decide), Option.bind_some, mo_in_j, Int32.toInt_toInt64, j0, j1, j2, j3, j7, j8, j11, j12, j15, j29, jm1, t0, t1, t2, t3, t4, t5, t6, t7, t11, t12, t15, t16, t30, t65535, tm1]
    rw [if_neg (by decide), if_neg (b10 h), if_neg hz0]
    by_cases g : b < 0
    · simp only [if_pos g, Option.bind_some]
      rw [if_pos (by decide), show ((1 : Int32) + 6).toNatClampNeg = 7 by decide]
    · simp only [if_neg g, Option.bind_some]
      rw [if_pos (by decide), show ((1 : Int32) + 6).toNatClampNeg = 7 by decide]
  · refine ⟨8, by omega, by omega, rfl, ?_⟩
    unfold mo_set
    simp only [if_neg (show ¬ (7 : Int32) = 3 by decide), if_true, Option.bind_some, mo_in_j, Int32.toInt_toInt64, j0, j1, j2, j3, j7, j8, j11, j12, j15, j29, jm1, t0, t1, t2, t3, t4, t5, t6, t7, t11, t12, t15, t16, t30, t65535, tm1]
    rw [if_neg (by decide), if_neg (b10 h), if_neg hz0, if_pos (hc rfl)]
    by_cases g : b < 0
    · simp only [if_pos g, Option.bind_some]
      rw [if_pos (by decide), show ((1 : Int32) + 7).toNatClampNeg = 8 by decide]
    · simp only [if_neg g, Option.bind_some]
      rw [if_pos (by decide), show ((1 : Int32) + 7).toNatClampNeg = 8 by decide]
theorem lt_set_y {n : Nat} {a b : Int32} {m : rn_Mem} (h : Lw a b) (hz : m.1 4 0 = 1) (hc : a = 7 → b < m.1 4 1) : ∃ w, 4 ≤ w ∧ w ≤ 8 ∧ a = nI (w - 1) ∧ lt_set n a b m = some (1, rm_i (rm_i (rm_i m 4 w b) 14 0 0) 0 8 0) := by
  have hz0 : ¬ m.1 4 0 = 0 := by rw [hz]; decide
  unfold lt_set
  rw [ga_lawful_y h]
  simp only [Option.bind_some]
  rw [if_neg (by decide), if_neg hz0]
  rcases h with ⟨rfl, h⟩ | ⟨rfl, h⟩ | ⟨rfl, h⟩ | ⟨rfl, h⟩ | ⟨rfl, h⟩
  · exact ⟨4, by omega, by omega, rfl, rfl⟩
  · exact ⟨5, by omega, by omega, rfl, rfl⟩
  · exact ⟨6, by omega, by omega, rfl, rfl⟩
  · exact ⟨7, by omega, by omega, rfl, rfl⟩
  · refine ⟨8, by omega, by omega, rfl, ?_⟩
    rw [if_pos rfl, if_pos (hc rfl)]
    rfl
def Pse (p i : Nat) : Prop := p = 4 ∨ (p = 14 ∧ i = 0) ∨ (p = 0 ∧ i = 8)
theorem WG_set {S : Nat → Nat} {w v : Nat} (h : WG S) (hw : 4 ≤ w ∧ w ≤ 8) (hv : (w = 4 → v ≤ 4) ∧ (w = 5 → v ≤ 2) ∧ (w = 6 → v ≤ 1) ∧ (w = 7 → v ≤ 1) ∧ (w = 8 → v < S 1 ∨ v = 4)) : WG (sv (sv S w v) 11 0) := by
  obtain ⟨h1, h2, h3, h4, h5, h6, h7, h8, h9, h10, h11, h12⟩ := h
  have e : ∀ k, k ≠ w → k ≠ 11 → sv (sv S w v) 11 0 k = S k := fun k g1 g2 => by rw [sv_n g2, sv_n g1]
  have ew : sv (sv S w v) 11 0 w = v := by rw [sv_n (by omega), sv_s]
  unfold WG
  rw [e 1 (by omega) (by omega), e 2 (by omega) (by omega), e 3 (by omega) (by omega)]
  refine ⟨h1, h2, h3, h4, h5, h6, ?_, ?_, ?_, ?_, ?_, h12⟩
  · by_cases g : w = 4
    · subst g; rw [ew]; exact hv.1 rfl
    · rw [e 4 (by omega) (by omega)]; exact h7
  · by_cases g : w = 5
    · subst g; rw [ew]; exact hv.2.1 rfl
    · rw [e 5 (by omega) (by omega)]; exact h8
  · by_cases g : w = 6
    · subst g; rw [ew]; exact hv.2.2.1 rfl
    · rw [e 6 (by omega) (by omega)]; exact h9
  · by_cases g : w = 7
    · subst g; rw [ew]; exact hv.2.2.2.1 rfl
    · rw [e 7 (by omega) (by omega)]; exact h10
  · by_cases g : w = 8
    · subst g; rw [ew]; exact hv.2.2.2.2 rfl
    · rw [e 8 (by omega) (by omega)]; exact h11
theorem S0_01 {S : Nat → Nat} (h : WF S) : S 0 = 0 ∨ S 0 = 1 := by
  rcases h with h | h
  · exact Or.inl h.1
  · exact Or.inr h.1
theorem WF_1 {S : Nat → Nat} (h : WF S) (h0 : S 0 = 1) : WG S ∧ WT S ∧ WC S ∧ WR S := by
  rcases h with h | h
  · omega
  · exact h.2
theorem WF_0 {S : Nat → Nat} (h : WF S) (h0 : S 0 = 0) : S 9 = 0 ∧ S 10 = 0 ∧ S 11 = 0 := by
  rcases h with h | h
  · exact h.2
  · omega
theorem C_set (S V : Nat → Nat) (m : rn_Mem) (hw : WF S) (hc : cSt S V 3 m) (a b : Int32) :
    (∃ r, (∀ n, lt_set n a b m = some (r, m)) ∧ ∀ n m1, zOK S (m1.1 116) → mo_set n a b m1 = some (r, m1)) ∨
    (∃ S2 m1, (∀ n, lt_set n a b m = some (1, m1)) ∧ WF S2 ∧ cSt S2 V 3 m1 ∧ m1.1 0 8 = 0 ∧ Kq Pse m m1 ∧ ∀ n m', zOK S (m'.1 116) → ∃ m2, mo_set n a b m' = some (1, m2) ∧ zOK S2 (m2.1 116) ∧ Kr (fun p => p = 116) m' m2) := by
  obtain ⟨⟨g0, g1⟩, c2, c3, c4⟩ := hc
  by_cases hl : Lw a b
  case neg =>
    refine Or.inl ⟨-1, fun n => ?_, fun n m1 _ => mo_set_n hl⟩
    unfold lt_set
    rw [ga_lawful_n hl]
    rfl
  rcases S0_01 hw with h0 | h0
  · refine Or.inl ⟨-2, fun n => ?_, fun n m1 hz => ?_⟩
    · unfold lt_set
      rw [ga_lawful_y hl]
      simp only [Option.bind_some]
      rw [if_neg (by decide), if_pos (by rw [g0, h0]; rfl)]
    · have hz0 : m1.1 116 0 = 0 := by rw [zOK_at hz (by omega) (by omega) (by omega) (by omega), h0]; rfl
      unfold mo_set
      rcases hl with ⟨rfl, h⟩ | ⟨rfl, h⟩ | ⟨rfl, h⟩ | ⟨rfl, h⟩ | ⟨rfl, h⟩
      · simp only [if_true, Option.bind_some, mo_in_j, Int32.toInt_toInt64, j0, j1, j2, j3, j7, j8, j11, j12, j15, j29, jm1, t0, t1, t2, t3, t4, t5, t6, t7, t11, t12, t15, t16, t30, t65535, tm1]
        rw [if_neg (by decide), if_neg (b10 h), if_pos hz0]
      · simp only [if_neg (show ¬ (4 : Int32) = 3 by decide), if_neg (show ¬ (4 : Int32) = 7 by decide), if_true, Option.bind_some, mo_in_j, Int32.toInt_toInt64, j0, j1, j2, j3, j7, j8, j11, j12, j15, j29, jm1, t0, t1, t2, t3, t4, t5, t6, t7, t11, t12, t15, t16, t30, t65535, tm1]
        rw [if_neg (by decide), if_neg (b10 h), if_pos hz0]
      · simp only [if_neg (show ¬ (5 : Int32) = 3 by decide), if_neg (show ¬ (5 : Int32) = 7 by decide), if_neg (show ¬ (5 : Int32) = 4 by decide), Option.bind_some, mo_in_j, Int32.toInt_toInt64, j0, j1, j2, j3, j7, j8, j11, j12, j15, j29, jm1, t0, t1, t2, t3, t4, t5, t6, t7, t11, t12, t15, t16, t30, t65535, tm1]
        rw [if_neg (by decide), if_neg (b10 h), if_pos hz0]
      · simp only [if_neg (show ¬ (6 : Int32) = 3 by decide), if_neg (show ¬ (6 : Int32) = 7 by decide), if_neg (show ¬ (6 : Int32) = 4 by decide), Option.bind_some, mo_in_j, Int32.toInt_toInt64, j0, j1, j2, j3, j7, j8, j11, j12, j15, j29, jm1, t0, t1, t2, t3, t4, t5, t6, t7, t11, t12, t15, t16, t30, t65535, tm1]
        rw [if_neg (by decide), if_neg (b10 h), if_pos hz0]
      · simp only [if_neg (show ¬ (7 : Int32) = 3 by decide), if_true, Option.bind_some, mo_in_j, Int32.toInt_toInt64, j0, j1, j2, j3, j7, j8, j11, j12, j15, j29, jm1, t0, t1, t2, t3, t4, t5, t6, t7, t11, t12, t15, t16, t30, t65535, tm1]
        rw [if_neg (by decide), if_neg (b10 h), if_pos hz0]
  obtain ⟨wg, wt, wc, wr⟩ := WF_1 hw h0
  obtain ⟨e1, e2, e3, e4, e5, e6, e7, e8⟩ := g1 h0
  have hg1 : m.1 4 0 = 1 := by rw [g0, h0]; rfl
  have hg0 : ¬ m.1 4 0 = 0 := by rw [hg1]; decide
  by_cases h7 : a = 7 ∧ ¬ b < nI (S 1)
  · obtain ⟨rfl, h7⟩ := h7
    refine Or.inl ⟨-1, fun n => ?_, fun n m1 hz => ?_⟩
    · unfold lt_set
      rw [ga_lawful_y hl]
      simp only [Option.bind_some]
      rw [if_neg (by decide), if_neg hg0, if_pos trivial, if_neg (by rw [show m.1 4 1 = nI (S 1) from e1]; exact h7)]
    · have hz0 : ¬ m1.1 116 0 = 0 := by rw [zOK_at hz (by omega) (by omega) (by omega) (by omega), h0]; decide
      have hz1 : m1.1 116 1 = nI (S 1) := zOK_at hz (by omega) (by omega) (by omega) (by omega)
      have hb : -1 ≤ b.toInt ∧ b.toInt ≤ 3 := by
        rcases hl with h | h | h | h | h
        · exact absurd h.1 (by decide)
        · exact absurd h.1 (by decide)
        · exact absurd h.1 (by decide)
        · exact absurd h.1 (by decide)
        · exact h.2
      unfold mo_set
      simp only [if_neg (show ¬ (7 : Int32) = 3 by decide), if_true, Option.bind_some, mo_in_j, Int32.toInt_toInt64, j0, j1, j2, j3, j7, j8, j11, j12, j15, j29, jm1, t0, t1, t2, t3, t4, t5, t6, t7, t11, t12, t15, t16, t30, t65535, tm1]
      rw [if_neg (by decide), if_neg (b10 hb), if_neg hz0, if_neg (by rw [hz1]; exact h7)]
  have hlt : a = 7 → b < nI (S 1) := fun h => Classical.not_not.mp fun q => h7 ⟨h, q⟩
  obtain ⟨w, w1, w2, w3, w4⟩ := lt_set_y (n := 0) hl hg1 (by rw [show m.1 4 1 = nI (S 1) from e1]; exact hlt)
  -- the number kept
  have hb : -1 ≤ b.toInt ∧ b.toInt ≤ 3 ∧ (w ≠ 4 → w ≠ 8 → 0 ≤ b.toInt) ∧ (w = 5 → b.toInt ≤ 2) ∧ (w = 6 → b.toInt ≤ 1) ∧ (w = 7 → b.toInt ≤ 1) := by
    have hw' : ∀ k, k < 2 ^ 31 → a = nI k → w = k + 1 := by
      intro k hk h
      rw [w3, nI_eq (by omega) hk] at h
      omega
    rcases hl with h | h | h | h | h
    · have := hw' 3 (by omega) h.1; omega
    · have := hw' 4 (by omega) h.1; omega
    · have := hw' 5 (by omega) h.1; omega
    · have := hw' 6 (by omega) h.1; omega
    · have := hw' 7 (by omega) h.1; omega
  obtain ⟨v, v1, v2, v3, v4⟩ : ∃ v, (0 ≤ b.toInt → b = nI v ∧ v < 4 ∧ (v : Int) = b.toInt) ∧ (b.toInt < 0 → v = 4) ∧ cT v = b ∧ zT v = (if b < 0 then -4 else b) := by
    by_cases g : 0 ≤ b.toInt
    · obtain ⟨j, hj, rfl⟩ := i_nat (x := b) (k := 4) g (by omega)
      refine ⟨j, fun _ => ⟨rfl, hj, by rw [nI_int (by omega)]⟩, fun q => by omega, ?_, ?_⟩
      · unfold cT; rw [if_pos hj]
      · unfold zT; rw [if_pos hj, if_neg (by rw [i_lt, t0]; omega)]
    · have hb1 : b = mI 1 := by rw [i_eq, mI_int (by omega)]; omega
      refine ⟨4, fun q => absurd q g, fun _ => rfl, ?_, ?_⟩
      · rw [hb1]; rfl
      · rw [if_pos (by rw [i_lt, t0]; omega)]; decide
  have ew : sv (sv S w v) 11 0 w = v := by rw [sv_n (by omega), sv_s]
  have eo : ∀ k, k ≠ w → k ≠ 11 → sv (sv S w v) 11 0 k = S k := fun k q1 q2 => by rw [sv_n q2, sv_n q1]
  have e11 : sv (sv S w v) 11 0 11 = 0 := sv_s
  have hvb : w = 8 → v < S 1 ∨ v = 4 := by
    intro h8
    by_cases g : 0 ≤ b.toInt
    · left
      have h2 := hlt (by rw [w3, h8]; rfl)
      have h3 := v1 g
      rw [i_lt, nI_int (by have := wg.2.1; omega)] at h2
      omega
    · exact Or.inr (v2 (by omega))
  have hv4 : v ≤ 4 := by
    by_cases g : 0 ≤ b.toInt
    · have := (v1 g).2.1; omega
    · have := v2 (by omega); omega
  have hnv : w ≠ 4 → w ≠ 8 → b = nI v ∧ (v : Int) = b.toInt := fun q1 q2 => ⟨(v1 (hb.2.2.1 q1 q2)).1, (v1 (hb.2.2.1 q1 q2)).2.2⟩
  have wg2 : WG (sv (sv S w v) 11 0) := WG_set wg ⟨w1, w2⟩ ⟨fun _ => hv4, fun q => by have := hnv (by omega) (by omega); have := hb.2.2.2.1 q; omega, fun q => by have := hnv (by omega) (by omega); have := hb.2.2.2.2.1 q; omega, fun q => by have := hnv (by omega) (by omega); have := hb.2.2.2.2.2 q; omega, hvb⟩
  refine Or.inr ⟨sv (sv S w v) 11 0, rm_i (rm_i (rm_i m 4 w b) 14 0 0) 0 8 0, fun n => ?_, ?_, ?_, ?_, ?_, ?_⟩
  · obtain ⟨w', w1', w2', w3', w4'⟩ := lt_set_y (n := n) hl hg1 (by rw [show m.1 4 1 = nI (S 1) from e1]; exact hlt)
    have : w' = w := by rw [w3, nI_eq (by omega) (by omega)] at w3'; omega
    rw [w4', this]
  · refine Or.inr ⟨by rw [eo 0 (by omega) (by omega), h0], wg2, WT_c (fun k hk => eo k (by omega) (by omega)) wt, WC_c (fun k hk => eo k (by omega) (by omega)) wc, ?_⟩
    unfold WR
    rw [e11]
    exact ⟨by omega, fun q => by omega⟩
  · refine ⟨⟨?_, fun _ => ?_⟩, ?_, ?_, ?_⟩
    · rw [eo 0 (by omega) (by omega)]
      simp (disch := omega) only [mi_get, mc_get, mi_2, mc_2, mj_1, mj_get, if_pos, if_neg, true_and, and_true, if_true, and_self]
      exact g0
    · have hr : ∀ j, (rm_i (rm_i (rm_i m 4 w b) 14 0 0) 0 8 0).1 (3 + 1) j = if j = w then b else m.1 4 j := by
        intro j
        simp only [mi_get]
        rw [if_neg (by omega), if_neg (by omega)]
        by_cases q : j = w
        · rw [if_pos ⟨trivial, q⟩, if_pos q]
        · rw [if_neg (fun z => q z.2), if_neg q]
      simp only [hr]
      rw [if_neg (show ¬ 1 = w by omega), if_neg (show ¬ 2 = w by omega), if_neg (show ¬ 3 = w by omega), eo 1 (by omega) (by omega), eo 2 (by omega) (by omega), eo 3 (by omega) (by omega)]
      refine ⟨e1, e2, e3, ?_, ?_, ?_, ?_, ?_⟩
      · by_cases q : 4 = w
        · rw [if_pos q, q, ew, v3]
        · rw [if_neg q, eo 4 q (by omega)]; exact e4
      · by_cases q : 5 = w
        · rw [if_pos q, q, ew]; exact (hnv (by omega) (by omega)).1
        · rw [if_neg q, eo 5 q (by omega)]; exact e5
      · by_cases q : 6 = w
        · rw [if_pos q, q, ew]; exact (hnv (by omega) (by omega)).1
        · rw [if_neg q, eo 6 q (by omega)]; exact e6
      · by_cases q : 7 = w
        · rw [if_pos q, q, ew]; exact (hnv (by omega) (by omega)).1
        · rw [if_neg q, eo 7 q (by omega)]; exact e7
      · by_cases q : 8 = w
        · rw [if_pos q, q, ew, v3]
        · rw [if_neg q, eo 8 q (by omega)]; exact e8
    · have hk : ∀ p, p ≠ 0 → p ≠ 4 → p ≠ 14 → (rm_i (rm_i (rm_i m 4 w b) 14 0 0) 0 8 0).1 p = m.1 p := by
        intro p q1 q2 q3
        funext j
        simp only [mi_get]
        rw [if_neg (by omega), if_neg (by omega), if_neg (by omega)]
      rw [hk (3 + 2) (by omega) (by omega) (by omega), hk (3 + 3) (by omega) (by omega) (by omega), hk (3 + 4) (by omega) (by omega) (by omega), hk (3 + 5) (by omega) (by omega) (by omega)]
      exact cTa_c (fun k hk => eo k (by omega) (by omega)) c2
    · have hk : ∀ p, p ≠ 0 → p ≠ 4 → p ≠ 14 → (rm_i (rm_i (rm_i m 4 w b) 14 0 0) 0 8 0).1 p = m.1 p := by
        intro p q1 q2 q3
        funext j
        simp only [mi_get]
        rw [if_neg (by omega), if_neg (by omega), if_neg (by omega)]
      rw [hk (3 + 6) (by omega) (by omega) (by omega), hk (3 + 7) (by omega) (by omega) (by omega), hk (3 + 8) (by omega) (by omega) (by omega), hk (3 + 9) (by omega) (by omega) (by omega), hk (3 + 10) (by omega) (by omega) (by omega)]
      exact cCl_c (fun k hk => eo k (by omega) (by omega)) c3
    · refine ⟨?_, fun q => by rw [e11] at q; omega⟩
      rw [e11]
      simp (disch := omega) only [mi_get, mc_get, mi_2, mc_2, mj_1, mj_get, if_pos, if_neg, true_and, and_true, if_true, and_self]
      rfl
  · simp (disch := omega) only [mi_get, mc_get, mi_2, mc_2, mj_1, mj_get, if_pos, if_neg, true_and, and_true, if_true, and_self]
  · refine ⟨fun p i hp => ?_, rfl⟩
    unfold Pse at hp
    simp only [mi_get]
    rw [if_neg (by omega), if_neg (by omega), if_neg (by omega)]
  · intro n m' hz
    have hz0 : m'.1 116 0 = 1 := by rw [zOK_at hz (by omega) (by omega) (by omega) (by omega), h0]; rfl
    have hz1 : m'.1 116 1 = nI (S 1) := zOK_at hz (by omega) (by omega) (by omega) (by omega)
    obtain ⟨w', w1', w2', w3', w4'⟩ := mo_set_y (n := n) hl hz0 (by rw [hz1]; exact hlt)
    have : w' = w := by rw [w3, nI_eq (by omega) (by omega)] at w3'; omega
    subst this
    refine ⟨_, w4', ?_, (Kr.rf.sti (by exact rfl)).sti (by exact rfl)⟩
    rw [← v4]
    have hr : ∀ j, (rm_i (rm_i m' 116 w' (zT v)) 116 11 0).1 116 j = if j = 11 then 0 else if j = w' then zT v else m'.1 116 j := by
      intro j
      simp only [mi_get, true_and]
    obtain ⟨z1, z2, z3, z4⟩ := hz
    refine ⟨fun k k1 k2 k3 k4 => ?_, ?_, ?_, fun k k1 k2 => ?_⟩
    · rw [hr]
      by_cases q : k = 11
      · rw [if_pos q, q, e11]; rfl
      · rw [if_neg q]
        by_cases q2 : k = w'
        · rw [if_pos q2, q2, ew]
          have := hnv (by omega) (by omega)
          unfold zT
          rw [if_pos ((v1 (by omega)).2.1)]
        · rw [if_neg q2, eo k q2 q]; exact z1 k k1 k2 k3 k4
    · rw [hr, if_neg (by omega)]
      by_cases q : 4 = w'
      · rw [if_pos q, q, ew]
      · rw [if_neg q, eo 4 q (by omega)]; exact z2
    · rw [hr, if_neg (by omega)]
      by_cases q : 8 = w'
      · rw [if_pos q, q, ew]
      · rw [if_neg q, eo 8 q (by omega)]; exact z3
    · rw [hr, if_neg (by omega), if_neg (by omega), eo k (by omega) (by omega)]; exact z4 k k1 k2
