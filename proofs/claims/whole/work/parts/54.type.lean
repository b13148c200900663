/-! THE TAPE: type -/
def wX (w : Int64) (i : Nat) : Int64 := w >>> (((8 : Int32) * nI i).toInt64 &&& 63)
def wb (w : Int64) (i : Nat) : Nat := (wX w i).toBitVec.toNat % 256
def wok (w : Int64) (i : Nat) : Prop := 32 ≤ wb w i ∧ wb w i ≤ 126
theorem j_low (X : Int64) : X.toInt32.toBitVec.toNat = X.toBitVec.toNat % 4294967296 := by
  have e : X.toInt32.toBitVec = X.toBitVec.setWidth 32 := by
    show X.toBitVec.signExtend 32 = _
    rw [BitVec.signExtend_eq_setWidth_of_le _ (by decide)]
  rw [e, BitVec.toNat_setWidth]
theorem j_255 (X : Int64) : (X &&& 255).toBitVec.toNat = X.toBitVec.toNat % 256 := by
  rw [Int64.toBitVec_and, BitVec.toNat_and, show (255 : Int64).toBitVec.toNat = 2 ^ 8 - 1 by decide, Nat.and_two_pow_sub_one_eq_mod]
theorem wb1 (w : Int64) (i : Nat) : (wX w i).toInt32 &&& 255 = nI (wb w i) := by
  rw [pk_and _ 8 (by decide), j_low]
  unfold wb
  congr 1
  omega
theorem wb2 (w : Int64) (i : Nat) : ((wX w i) &&& 255).toInt = wb w i := by
  show ((wX w i) &&& 255).toBitVec.toInt = _
  rw [BitVec.toInt_eq_toNat_cond, j_255]
  unfold wb
  split
  · rfl
  · omega
theorem wb3 (w : Int64) (i : Nat) : ((wX w i) &&& 255).toInt32 = nI (wb w i) := by
  apply Int32.toBitVec_inj.mp
  apply BitVec.eq_of_toNat_eq
  rw [j_low, j_255, pk_tn (by unfold wb; omega)]
  unfold wb
  omega
theorem wb4 (w : Int64) (i : Nat) (h : wb w i ≤ 126) : vp_nar .byte ((wX w i).toInt32.toInt8.toInt32) = nI (wb w i) := by
  have key : ∀ y : Int32, y.toBitVec.toNat % 256 ≤ 126 → y.toInt8.toInt32 = nI (y.toBitVec.toNat % 256) := by
    intro y hy
    apply Int32.toInt_inj.mp
    have hn : y.toBitVec.toNat < 4294967296 := y.toBitVec.isLt
    rw [Int8.toInt_toInt32, Int32.toInt_toInt8, nI_int (by omega), i_nat_int y]
    generalize y.toBitVec.toNat = k at hn hy
    rw [bmod8]
    split <;> split <;> omega
  have e : (wX w i).toInt32.toBitVec.toNat % 256 = wb w i := by
    rw [j_low]; unfold wb; omega
  rw [vp_nar_byte, key (wX w i).toInt32 (by rw [e]; exact h), e, key (nI (wb w i)) (by rw [pk_tn (by omega)]; omega), pk_tn (by omega)]
  congr 1
  omega
theorem tp_typable_sp (w : Int64) (k : Nat) (hk : k ≤ 8) : ∀ (j i n : Nat) (m : rn_Mem), i + j = k → j < n → (tp_typable_l2 w (nI k) n (nI i) m = some (.inr m) ∧ ∀ t, i ≤ t → t < k → wok w t) ∨ (tp_typable_l2 w (nI k) n (nI i) m = some (.inl (0, m)) ∧ ∃ t, t < k ∧ ¬ wok w t) := by
  intro j
  induction j with
  | zero =>
    intro i n m hi hn
    obtain ⟨n, rfl⟩ : ∃ e, n = e + 1 := ⟨n - 1, by omega⟩
    refine Or.inl ⟨?_, fun t h1 h2 => by omega⟩
    unfold tp_typable_l2
    rw [if_neg (by rw [i_lt, nI_int (by omega), nI_int (by omega)]; omega)]
  | succ j ih =>
    intro i n m hi hn
    obtain ⟨n, rfl⟩ : ∃ e, n = e + 1 := ⟨n - 1, by omega⟩
    unfold tp_typable_l2
    rw [if_pos (by rw [i_lt, nI_int (by omega), nI_int (by omega)]; omega)]
    simp only [Option.bind_some]
    have hb : wb w i < 256 := by unfold wb; omega
    rw [show ((w >>> (((8 : Int32) * nI i).toInt64 &&& 63)).toInt32 &&& 255) = nI (wb w i) from wb1 w i]
    by_cases h1 : wb w i < 32
    · rw [if_pos (by rw [i_lt, nI_int (by omega), show (32 : Int32).toInt = 32 by decide]; omega)]
      exact Or.inr ⟨rfl, i, by omega, fun z => by unfold wok at z; omega⟩
    rw [if_neg (by rw [i_lt, nI_int (by omega), show (32 : Int32).toInt = 32 by decide]; omega)]
    by_cases h2 : 126 < wb w i
    · rw [if_pos (by rw [i_lt, nI_int (by omega), show (126 : Int32).toInt = 126 by decide]; omega)]
      exact Or.inr ⟨rfl, i, by omega, fun z => by unfold wok at z; omega⟩
    rw [if_neg (by rw [i_lt, nI_int (by omega), show (126 : Int32).toInt = 126 by decide]; omega), nI_1]
    rcases ih (i + 1) n m (by omega) (by omega) with ⟨q1, q2⟩ | q
    · refine Or.inl ⟨q1, fun t h3 h4 => ?_⟩
      by_cases e : t = i
      · subst e; unfold wok; omega
      · exact q2 t (by omega) h4
    · exact Or.inr q
theorem mo_type_l19_sp (w : Int64) (a3 : Int32) : ∀ (j n : Nat) (m : rn_Mem), j ≤ 8 → j < n → (mo_type_l19 w a3 n (nI j + (-1)) m = some (.inr m) ∧ ∀ t, t < j → wok w t) ∨ (mo_type_l19 w a3 n (nI j + (-1)) m = some (.inl (-1, m)) ∧ ∃ t, t < j ∧ ¬ wok w t) := by
  intro j
  induction j with
  | zero =>
    intro n m hj hn
    obtain ⟨n, rfl⟩ : ∃ e, n = e + 1 := ⟨n - 1, by omega⟩
    refine Or.inl ⟨?_, fun t h1 => by omega⟩
    unfold mo_type_l19
    rw [if_pos (by decide)]
  | succ j ih =>
    intro n m hj hn
    obtain ⟨n, rfl⟩ : ∃ e, n = e + 1 := ⟨n - 1, by omega⟩
    rw [pk_m1]
    unfold mo_type_l19
    rw [if_neg (by rw [i_lt, nI_int (by omega), show (0 : Int32).toInt = 0 by decide]; omega), mo_in_j]
    simp only [Option.bind_some]
    rw [show ((w >>> (((8 : Int32) * nI j).toInt64 &&& 63)) &&& 255).toInt = (wb w j : Int) from wb2 w j, show (32 : Int64).toInt = 32 by decide, show (126 : Int64).toInt = 126 by decide]
    by_cases h : wok w j
    · unfold wok at h
      rw [if_pos (show (32 : Int) ≤ (wb w j : Int) ∧ (wb w j : Int) ≤ 126 by omega), if_neg (by decide)]
      rcases ih n m (by omega) (by omega) with ⟨q1, q2⟩ | ⟨q1, t, q2, q3⟩
      · refine Or.inl ⟨q1, fun t ht => ?_⟩
        by_cases e : t = j
        · subst e; exact h
        · exact q2 t (by omega)
      · exact Or.inr ⟨q1, t, by omega, q3⟩
    · have h2 := h
      unfold wok at h2
      rw [if_neg (show ¬ ((32 : Int) ≤ (wb w j : Int) ∧ (wb w j : Int) ≤ 126) by omega), if_pos rfl]
      exact Or.inr ⟨rfl, j, by omega, h⟩
theorem tp_append_sp (w : Int64) : ∀ (j k n : Nat) (m : rn_Mem), k + j ≤ 80 → j ≤ 8 → j < n → m.1 1 1 = nI k → (∀ t, t < j → wok w t) → ∃ m2, tp_append_l5 w n (nI j + (-1)) m = some m2 ∧ m2.2 = m.2 ∧ m2.1 1 1 = nI (k + j) ∧ (∀ p i, p ≠ 2 → (p ≠ 1 ∨ i ≠ 1) → m2.1 p i = m.1 p i) ∧ ∀ i, m2.1 2 i = if k ≤ i ∧ i < k + j then nI (wb w (k + j - 1 - i)) else m.1 2 i := by
  intro j
  induction j with
  | zero =>
    intro k n m h1 h2 h3 h4 h5
    obtain ⟨n, rfl⟩ : ∃ e, n = e + 1 := ⟨n - 1, by omega⟩
    refine ⟨m, ?_, rfl, h4, fun _ _ _ _ => rfl, fun i => by rw [if_neg (by omega)]⟩
    unfold tp_append_l5
    rw [if_pos (by decide)]
  | succ j ih =>
    intro k n m h1 h2 h3 h4 h5
    obtain ⟨n, rfl⟩ : ∃ e, n = e + 1 := ⟨n - 1, by omega⟩
    obtain ⟨m2, g1, g2, g3, g4, g5⟩ := ih (k + 1) n (rm_i (rm_i m 2 k (nI (wb w j))) 1 1 (nI (k + 1))) (by omega) (by omega) (by omega) (by rw [mi_get, if_pos ⟨rfl, rfl⟩]) (fun t ht => h5 t (by omega))
    refine ⟨m2, ?_, by rw [g2]; rfl, by rw [g3]; congr 1; omega, fun p i hp hi => ?_, fun i => ?_⟩
    · rw [pk_m1]
      unfold tp_append_l5
      rw [if_neg (by rw [i_lt, nI_int (by omega), show (0 : Int32).toInt = 0 by decide]; omega), h4, if_pos (by rw [i_lt, nI_int (by omega), show (80 : Int32).toInt = 80 by decide]; omega), if_pos (by rw [in_iff, nI_int (by omega)]; omega), nI_n (by omega), show vp_nar .byte ((w >>> (((8 : Int32) * nI j).toInt64 &&& 63)).toInt32.toInt8.toInt32) = nI (wb w j) from wb4 w j (h5 j (by omega)).2]
      simp only [Option.bind_some]
      rw [mi_get, if_neg (by omega), h4, nI_1]
      exact g1
    · rw [g4 p i hp hi, mi_get, if_neg (by omega), mi_get, if_neg (by omega)]
    · simp only [g5, mi_get]
      by_cases e : i = k
      · subst e
        simp (disch := omega) only [if_pos, if_neg, true_and, and_true, if_true] <;> first | rfl | (congr 2; omega)
      · by_cases e2 : k + 1 ≤ i ∧ i < k + 1 + j
        · simp (disch := omega) only [if_pos, if_neg, true_and, and_true, if_true] <;> first | rfl | (congr 2; omega)
        · simp (disch := omega) only [if_pos, if_neg, true_and, and_true, if_true]
theorem mo_type_l74_sp (w : Int64) : ∀ (j k n : Nat) (m : rn_Mem), k + j ≤ 80 → j ≤ 8 → j < n → m.1 115 2 = nI k → ∃ m2, mo_type_l74 w n (nI j + (-1)) m = some m2 ∧ m2.2 = m.2 ∧ m2.1 115 2 = nI (k + j) ∧ (∀ p i, p ≠ 117 → (p ≠ 115 ∨ i ≠ 2) → m2.1 p i = m.1 p i) ∧ ∀ i, m2.1 117 i = if k ≤ i ∧ i < k + j then nI (wb w (k + j - 1 - i)) else m.1 117 i := by
  intro j
  induction j with
  | zero =>
    intro k n m h1 h2 h3 h4
    obtain ⟨n, rfl⟩ : ∃ e, n = e + 1 := ⟨n - 1, by omega⟩
    refine ⟨m, ?_, rfl, h4, fun _ _ _ _ => rfl, fun i => by rw [if_neg (by omega)]⟩
    unfold mo_type_l74
    rw [if_pos (by decide)]
  | succ j ih =>
    intro k n m h1 h2 h3 h4
    obtain ⟨n, rfl⟩ : ∃ e, n = e + 1 := ⟨n - 1, by omega⟩
    obtain ⟨m2, g1, g2, g3, g4, g5⟩ := ih (k + 1) n (rm_i (rm_i m 117 k (nI (wb w j))) 115 2 (nI (k + 1))) (by omega) (by omega) (by omega) (by rw [mi_get, if_pos ⟨rfl, rfl⟩])
    refine ⟨m2, ?_, by rw [g2]; rfl, by rw [g3]; congr 1; omega, fun p i hp hi => ?_, fun i => ?_⟩
    · rw [pk_m1]
      unfold mo_type_l74
      rw [if_neg (by rw [i_lt, nI_int (by omega), show (0 : Int32).toInt = 0 by decide]; omega), h4, if_pos (by rw [in_iff, nI_int (by omega)]; omega), nI_n (by omega), show ((w >>> (((8 : Int32) * nI j).toInt64 &&& 63)) &&& 255).toInt32 = nI (wb w j) from wb3 w j]
      simp only [Option.bind_some]
      rw [mi_get, if_neg (by omega), h4, nI_1]
      exact g1
    · rw [g4 p i hp hi, mi_get, if_neg (by omega), mi_get, if_neg (by omega)]
    · simp only [g5, mi_get]
      by_cases e : i = k
      · subst e
        simp (disch := omega) only [if_pos, if_neg, true_and, and_true, if_true] <;> first | rfl | (congr 2; omega)
      · by_cases e2 : k + 1 ≤ i ∧ i < k + 1 + j
        · simp (disch := omega) only [if_pos, if_neg, true_and, and_true, if_true] <;> first | rfl | (congr 2; omega)
        · simp (disch := omega) only [if_pos, if_neg, true_and, and_true, if_true]
def Rtp (m : rn_Mem) : Prop := ∃ k, k ≤ 80 ∧ m.1 1 1 = nI k ∧ m.1 115 2 = nI k ∧ m.1 1 2 = 0 ∧ ∀ i, i < k → m.1 2 i = m.1 117 i ∧ 32 ≤ (m.1 117 i).toInt ∧ (m.1 117 i).toInt ≤ 126
def Ptp (p i : Nat) : Prop := p = 2 ∨ p = 117 ∨ (p = 1 ∧ i = 1) ∨ (p = 115 ∧ i = 2)
def Kq (P : Nat → Nat → Prop) (m m2 : rn_Mem) : Prop := (∀ p i, ¬ P p i → m2.1 p i = m.1 p i) ∧ m2.2 = m.2
theorem Kq.rf {P : Nat → Nat → Prop} {m : rn_Mem} : Kq P m m := ⟨fun _ _ _ => rfl, rfl⟩
theorem L_type {n : Nat} (hn : pN ≤ n) (w : Int64) (a : Int32) (m : rn_Mem) (hR : Rtp m) : ∃ (r : Int32) (m1 m2 : rn_Mem), lt_type n w a m = some (r, m1) ∧ mo_type n w a m1 = some (r, m2) ∧ Rtp m2 ∧ Kq Ptp m m2 := by
  unfold pN at hn
  by_cases hk : ¬ (1 ≤ a.toInt ∧ a.toInt ≤ 8)
  · refine ⟨-1, m, m, ?_, ?_, hR, Kq.rf⟩
    · unfold lt_type
      by_cases h1 : a < 1
      · rw [if_pos h1]
      · rw [if_neg h1, if_pos (by rw [i_lt, show (1 : Int32).toInt = 1 by decide] at h1; rw [i_lt, show (8 : Int32).toInt = 8 by decide]; omega)]
    · unfold mo_type
      rw [mo_in_i n a 1 8 1 8 m (by decide) (by decide), if_neg hk]
      rfl
  have hk := Classical.not_not.mp hk
  obtain ⟨q, hq9, rfl⟩ := i_nat (x := a) (k := 9) (by omega) (by omega)
  rw [nI_int (by omega)] at hk
  have hq1 : 1 ≤ q := by omega
  have hpr : nI q - 1 = nI q + (-1) := by
    obtain ⟨e, rfl⟩ : ∃ e, q = e + 1 := ⟨q - 1, by omega⟩
    rw [nI_pred, pk_m1]
  have hlt : ∀ u : rn_Mem, lt_type n w (nI q) u = (tp_typable n w (nI q) u).bind fun (r4, m3) => if r4 = 0 then some (-1, m3) else if 80 < m3.1 1 1 + nI q then some (-3, m3) else (tp_append n w (nI q) m3).bind fun m8 => some (m8.1 1 1, m8) := by
    intro u
    unfold lt_type
    rw [if_neg (by rw [i_lt, nI_int (by omega), show (1 : Int32).toInt = 1 by decide]; omega), if_neg (by rw [i_lt, nI_int (by omega), show (8 : Int32).toInt = 8 by decide]; omega)]
  have hmo : ∀ u : rn_Mem, mo_type n w (nI q) u = (mo_type_l19 w (nI q) n (nI q + (-1)) u).bind fun z => match z with
      | .inl o => some o
      | .inr m12 => if 80 < m12.1 115 2 + nI q then some (-3, m12) else (mo_type_l74 w n (nI q + (-1)) m12).bind fun m23 => some (m23.1 115 2, m23) := by
    intro u
    unfold mo_type
    rw [mo_in_i n (nI q) 1 8 1 8 u (by decide) (by decide), if_pos (by rw [nI_int (by omega)]; omega)]
    simp only [Option.bind_some]
    rw [if_neg (by decide), hpr]
    rfl
  rw [hlt]
  simp only [hmo]
  unfold tp_typable
  obtain ⟨k, h80, s1, s2, s3, s4⟩ := hR
  rcases tp_typable_sp w q (by omega) q 0 n m (by omega) (by omega) with ⟨t1, t2⟩ | ⟨t1, t, t2, t3⟩
  · rw [nI_0] at t1
    rw [t1]
    simp only [Option.bind_some]
    rw [if_neg (by decide), s1, nI_add]
    have hall : ∀ t, t < q → wok w t := fun t ht => t2 t (Nat.zero_le _) ht
    have hm19 : ∀ u : rn_Mem, mo_type_l19 w (nI q) n (nI q + (-1)) u = some (.inr u) := by
      intro u
      rcases mo_type_l19_sp w (nI q) q n u (by omega) (by omega) with ⟨z, _⟩ | ⟨_, t, z1, z2⟩
      · exact z
      · exact absurd (hall t z1) z2
    by_cases hf : 80 < k + q
    · rw [if_pos (by rw [i_lt, nI_int (by omega), show (80 : Int32).toInt = 80 by decide]; omega)]
      refine ⟨-3, m, m, rfl, ?_, ⟨k, h80, s1, s2, s3, s4⟩, Kq.rf⟩
      rw [hm19]
      simp only [Option.bind_some]
      rw [s2, nI_add, if_pos (by rw [i_lt, nI_int (by omega), show (80 : Int32).toInt = 80 by decide]; omega)]
    · rw [if_neg (by rw [i_lt, nI_int (by omega), show (80 : Int32).toInt = 80 by decide]; omega)]
      obtain ⟨u, u1, u2, u3, u4, u5⟩ := tp_append_sp w q k n m (by omega) (by omega) (by omega) s1 hall
      unfold tp_append
      simp only [Option.bind_some]
      rw [hpr, u1]
      simp only [Option.bind_some]
      have s2u : u.1 115 2 = nI k := by rw [u4 115 2 (by omega) (by omega)]; exact s2
      obtain ⟨v, v1, v2, v3, v4, v5⟩ := mo_type_l74_sp w q k n u (by omega) (by omega) (by omega) s2u
      refine ⟨nI (k + q), u, v, by rw [u3], ?_, ⟨k + q, by omega, ?_, v3, ?_, fun i hi => ?_⟩, fun p i hp => ?_, by rw [v2, u2]⟩
      · rw [hm19]
        simp only [Option.bind_some]
        rw [s2u, nI_add, if_neg (by rw [i_lt, nI_int (by omega), show (80 : Int32).toInt = 80 by decide]; omega), v1]
        simp only [Option.bind_some]
        rw [v3]
      · rw [v4 1 1 (by omega) (by omega)]; exact u3
      · rw [v4 1 2 (by omega) (by omega), u4 1 2 (by omega) (by omega)]; exact s3
      · rw [v4 2 i (by omega) (by omega), u5, v5]
        by_cases e : k ≤ i
        · have hw := hall (k + q - 1 - i) (by omega)
          unfold wok at hw
          rw [if_pos ⟨e, hi⟩, if_pos ⟨e, hi⟩, nI_int (by omega)]
          refine ⟨rfl, by omega, by omega⟩
        · rw [if_neg (by omega), if_neg (by omega), u4 117 i (by omega) (by omega)]
          exact s4 i (by omega)
      · unfold Ptp at hp
        rw [v4 p i (by omega) (by omega), u4 p i (by omega) (by omega)]
  · rw [nI_0] at t1
    rw [t1]
    simp only [Option.bind_some, if_true]
    refine ⟨-1, m, m, rfl, ?_, ⟨k, h80, s1, s2, s3, s4⟩, Kq.rf⟩
    rcases mo_type_l19_sp w (nI q) q n m (by omega) (by omega) with ⟨_, z⟩ | ⟨z, _⟩
    · exact absurd (z t t2) t3
    · rw [z]
      rfl
