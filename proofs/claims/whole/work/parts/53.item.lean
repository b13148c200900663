/-! SHEETS: item -/
theorem bm8 (n : Int) (h0 : 0 ≤ n) (h1 : n < 4294967296) : (if 2 * (n * 16777216 % 4294967296) < 4294967296 then n * 16777216 % 4294967296 else n * 16777216 % 4294967296 - 4294967296) / 16777216 = (if n % 256 < 128 then n % 256 else n % 256 - 256) := by
  split <;> split <;> omega
theorem bm16 (n : Int) (h0 : 0 ≤ n) (h1 : n < 4294967296) : (if 2 * (n * 65536 % 4294967296) < 4294967296 then n * 65536 % 4294967296 else n * 65536 % 4294967296 - 4294967296) / 65536 = (if n % 65536 < 32768 then n % 65536 else n % 65536 - 65536) := by
  split <;> split <;> omega
theorem i_nat_int (x : Int32) : x.toInt = if 2 * (x.toBitVec.toNat : Int) < 4294967296 then (x.toBitVec.toNat : Int) else (x.toBitVec.toNat : Int) - 4294967296 := by
  show x.toBitVec.toInt = _
  rw [BitVec.toInt_eq_toNat_cond]
  split <;> split <;> omega
theorem bmod8 (z : Int) : Int.bmod z (2 ^ 8) = if z % 256 < 128 then z % 256 else z % 256 - 256 := by
  have h : ((2 ^ 8 : Nat) : Int) = 256 := by decide
  have h2 : ((256 : Int) + 1) / 2 = 128 := by decide
  unfold Int.bmod
  rw [h, h2]
theorem bmod16 (z : Int) : Int.bmod z (2 ^ 16) = if z % 65536 < 32768 then z % 65536 else z % 65536 - 65536 := by
  have h : ((2 ^ 16 : Nat) : Int) = 65536 := by decide
  have h2 : ((65536 : Int) + 1) / 2 = 32768 := by decide
  unfold Int.bmod
  rw [h, h2]
theorem sh8 (x : Int32) : (x <<< ((24 : Int32) &&& 31)) >>> ((24 : Int32) &&& 31) = x.toInt8.toInt32 := by
  apply Int32.toInt_inj.mp
  rw [pk_shr _ _ 24 (by decide), Int8.toInt_toInt32, Int32.toInt_toInt8, i_nat_int (x <<< ((24 : Int32) &&& 31)), pk_shl x ((24 : Int32) &&& 31) 24 (by decide), i_nat_int x, Int.shiftRight_eq_div_pow]
  have hn : x.toBitVec.toNat < 4294967296 := x.toBitVec.isLt
  generalize x.toBitVec.toNat = n at hn
  have := bm8 n (by omega) (by omega)
  have e : (((n * 2 ^ 24 % 2 ^ 32 : Nat) : Int)) = (n : Int) * 16777216 % 4294967296 := by omega
  rw [e]
  have e2 : (((2 ^ 24 : Nat) : Int)) = 16777216 := by decide
  rw [e2, this, bmod8]
  clear this
  (repeat' split) <;> omega
theorem sh16 (x : Int32) : (x <<< ((16 : Int32) &&& 31)) >>> ((16 : Int32) &&& 31) = x.toInt16.toInt32 := by
  apply Int32.toInt_inj.mp
  rw [pk_shr _ _ 16 (by decide), Int16.toInt_toInt32, Int32.toInt_toInt16, i_nat_int (x <<< ((16 : Int32) &&& 31)), pk_shl x ((16 : Int32) &&& 31) 16 (by decide), i_nat_int x, Int.shiftRight_eq_div_pow]
  have hn : x.toBitVec.toNat < 4294967296 := x.toBitVec.isLt
  generalize x.toBitVec.toNat = n at hn
  have := bm16 n (by omega) (by omega)
  have e : (((n * 2 ^ 16 % 2 ^ 32 : Nat) : Int)) = (n : Int) * 65536 % 4294967296 := by omega
  rw [e]
  have e2 : (((2 ^ 16 : Nat) : Int)) = 65536 := by decide
  rw [e2, this, bmod16]
  clear this
  (repeat' split) <;> omega
theorem i_pred {x : Int32} (h0 : 0 ≤ x.toInt) : (x - 1).toInt = x.toInt - 1 := by
  obtain ⟨j, hj, rfl⟩ := i_nat (k := 2147483648) h0 (by have := Int32.toInt_lt x; omega)
  rw [show (1 : Int32) = nI 1 by decide]
  by_cases h : 1 ≤ j
  · rw [pk_sub h, nI_int (by omega), nI_int (by omega)]; omega
  · obtain rfl : j = 0 := by omega
    decide
def it_val (lane v : Int32) : Int32 := if lane = 0 then v.toInt8.toInt32 else if lane = 1 then v.toInt16.toInt32 else v
theorem L_item {n : Nat} (hn : pN ≤ n) (a b c v : Int32) (m : rn_Mem) (hR : Rsh m) : ∃ (r : Int32) (m1 m2 : rn_Mem), lt_item n a b c v m = some (r, m1) ∧ mo_item n a b c v m1 = some (r, m2) ∧ Rsh m2 ∧ Kp Psh m m2 := by
  unfold lt_item
  simp only [lt_isNoSheet_eq, Option.bind_some, lt_isNoLane_eq]
  by_cases hs : ¬ (0 ≤ a.toInt ∧ a.toInt ≤ 3)
  · rw [if_neg hs, if_neg (by decide)]
    refine ⟨_, _, m, rfl, ?_, hR, Kp.rf⟩
    unfold mo_item
    rw [mo_isSheet_eq, if_neg (fun z => hs z.1)]
    rfl
  have hs := Classical.not_not.mp hs
  rw [if_pos hs, if_pos rfl]
  by_cases hl : ¬ (0 ≤ b.toInt ∧ b.toInt ≤ 2)
  · rw [if_neg hl, if_neg (by decide)]
    refine ⟨_, _, m, rfl, ?_, hR, Kp.rf⟩
    unfold mo_item
    rw [mo_isSheet_eq, if_neg (fun z => hl z.2)]
    rfl
  have hl := Classical.not_not.mp hl
  rw [if_pos hl, if_pos rfl]
  have hi2 := hl
  obtain ⟨s, hs4, rfl⟩ := i_nat (k := 4) hs.1 (by omega)
  have hin : rn_in (nI s) 4 = true := by rw [in_iff, nI_int (by omega)]; omega
  have hsn : (nI s).toNatClampNeg = s := nI_n (by omega)
  obtain ⟨r1, r2, r3, r4, r5⟩ := hR s hs4
  have hlack : ∀ u : rn_Mem, u.1 150 s = m.1 150 s → u.1 151 s = m.1 151 s → mo_lacksRow n (nI s) b c 1 u = some (if m.1 150 s = b then (if 0 ≤ c.toInt ∧ c.toInt ≤ (m.1 151 s).toInt - 1 then 0 else -13) else if m.1 150 s < 0 then -11 else -12, u) := by
    intro u g1 g2
    unfold mo_lacksRow
    simp only [hin, if_true, hsn, g1, g2]
    by_cases e : m.1 150 s = b
    · rw [if_pos e, if_pos e, mo_in_i n c 0 _ 0 ((m.1 151 s).toInt - 1) u (by decide) (by rw [Int32.toInt_toInt64, i_pred r3])]
      simp only [Option.bind_some]
      by_cases e2 : 0 ≤ c.toInt ∧ c.toInt ≤ (m.1 151 s).toInt - 1
      · rw [if_pos e2, if_neg (by decide), if_pos e2]
      · rw [if_neg e2, if_pos rfl, if_neg e2]
    · rw [if_neg e, if_neg e]
      by_cases e2 : m.1 150 s < 0
      · rw [if_pos e2, if_pos e2]
      · rw [if_neg e2, if_neg e2]
  have href : sh_refusal n (107 + 2 * s) b c 1 m = some (if m.1 150 s = b then (if 0 ≤ c.toInt ∧ c.toInt ≤ (m.1 151 s).toInt - 1 then 0 else -13) else if m.1 150 s < 0 then -11 else -12, m) := by
    unfold sh_refusal
    rcases r1 with ⟨q1, q2⟩ | ⟨q1, q2, q3, q4⟩
    · have hne : ¬ m.1 150 s = b := by
        intro z
        rw [← z, q2] at hi2
        have := hi2.1
        revert this
        decide
      rw [if_pos q1, if_neg hne, if_pos (by rw [q2]; decide)]
    · have hnl : ¬ m.1 150 s < 0 := by
        rw [i_lt, show (0 : Int32).toInt = 0 by decide]; omega
      rw [if_neg (by rw [q1]; decide), ← q2]
      by_cases e : m.1 150 s = b
      · rw [if_pos e, if_pos e, r2]
        by_cases e1 : c < 0
        · rw [if_pos e1, if_neg (by rw [i_lt, show (0 : Int32).toInt = 0 by decide] at e1; omega)]
        · rw [if_neg e1]
          rw [i_lt, show (0 : Int32).toInt = 0 by decide] at e1
          by_cases e2 : m.1 151 s - 1 < c
          · rw [if_pos e2, if_neg (by rw [i_lt, i_pred r3] at e2; omega)]
          · rw [if_neg e2, if_pos (by rw [i_lt, i_pred r3] at e2; omega)]
      · rw [if_neg e, if_neg e, if_neg hnl]
  simp only [hin, if_true, hsn, href, Option.bind_some]
  have hmo : ∀ u : rn_Mem, u.1 150 s = m.1 150 s → u.1 151 s = m.1 151 s → mo_item n (nI s) b c v u = (if (if m.1 150 s = b then (if 0 ≤ c.toInt ∧ c.toInt ≤ (m.1 151 s).toInt - 1 then (0 : Int32) else -13) else if m.1 150 s < 0 then -11 else -12) < 0 then some (if m.1 150 s = b then (if 0 ≤ c.toInt ∧ c.toInt ≤ (m.1 151 s).toInt - 1 then 0 else -13) else if m.1 150 s < 0 then -11 else -12, u) else if rn_in ((24 : Int32) * nI s + c) 96 = true then some (1, rm_i u 152 ((24 : Int32) * nI s + c).toNatClampNeg (it_val b v)) else none) := by
    intro u g1 g2
    unfold mo_item
    rw [mo_isSheet_eq, if_pos ⟨hs, hl⟩]
    simp only [Option.bind_some, hlack u g1 g2]
    rw [if_neg (by decide)]
    have hv : (if b = 0 then some ((v <<< ((24 : Int32) &&& 31)) >>> ((24 : Int32) &&& 31)) else if b = 1 then some ((v <<< ((16 : Int32) &&& 31)) >>> ((16 : Int32) &&& 31)) else some v) = some (it_val b v) := by
      unfold it_val
      rw [sh8, sh16]
      split
      · rfl
      · split <;> rfl
    rw [hv]
    rfl
  by_cases e : ¬ m.1 150 s = b
  · simp only [if_neg e] at hmo ⊢
    by_cases e2 : m.1 150 s < 0
    · simp only [if_pos e2] at hmo ⊢
      rw [if_neg (by decide)]
      exact ⟨_, m, m, rfl, by rw [hmo m rfl rfl]; rfl, hR, Kp.rf⟩
    · simp only [if_neg e2] at hmo ⊢
      rw [if_neg (by decide)]
      exact ⟨_, m, m, rfl, by rw [hmo m rfl rfl]; rfl, hR, Kp.rf⟩
  have e := Classical.not_not.mp e
  simp only [if_pos e] at hmo ⊢
  by_cases e2 : ¬ (0 ≤ c.toInt ∧ c.toInt ≤ (m.1 151 s).toInt - 1)
  · simp only [if_neg e2] at hmo ⊢
    rw [if_neg (by decide)]
    exact ⟨_, m, m, rfl, by rw [hmo m rfl rfl]; rfl, hR, Kp.rf⟩
  have e2 := Classical.not_not.mp e2
  simp only [if_pos e2, if_true] at hmo ⊢
  obtain ⟨j, hj, rfl⟩ := i_nat (k := 24) e2.1 (by omega)
  have hjn : (nI j).toNatClampNeg = j := nI_n (by omega)
  have hlane : m.1 (107 + 2 * s) 1 = b := by
    rcases r1 with ⟨q1, q2⟩ | ⟨q1, q2, q3, q4⟩
    · exfalso
      rw [← e, q2] at hi2
      have := hi2.1
      revert this
      decide
    · rw [← q2]; exact e
  have hput : sh_put n (107 + 2 * s) (nI j) v m = some (rm_i m (107 + 2 * s + 1) j (it_val b v)) := by
    unfold sh_put
    dsimp only
    rw [hlane]
    have hv : (if b = 0 then some v.toInt8.toInt32 else if b = 1 then some v.toInt16.toInt32 else some v) = some (it_val b v) := by
      unfold it_val
      split
      · rfl
      · split <;> rfl
    rw [hv]
    simp only [Option.bind_some]
    rw [if_pos (by rw [in_iff, nI_int (by omega)]; omega), hjn]
  rw [hput]
  simp only [Option.bind_some]
  have hj24 : j < (m.1 151 s).toInt := by
    have := e2.2
    rw [nI_int (by omega)] at this
    omega
  refine ⟨1, rm_i m (107 + 2 * s + 1) j (it_val b v), rm_i (rm_i m (107 + 2 * s + 1) j (it_val b v)) 152 (24 * s + j) (it_val b v), rfl, ?_, ?_, ?_⟩
  · rw [hmo _ (by rw [mi_get, if_neg (by omega)]) (by rw [mi_get, if_neg (by omega)]), if_neg (by decide), n24 hs4 (by omega), if_pos (by rw [in_iff, nI_int (by omega)]; omega), nI_n (by omega)]
  · intro t ht
    obtain ⟨w1, w2, w3, w4, w5⟩ := hR t ht
    simp only [mi_get]
    refine ⟨?_, ?_, ?_, ?_, fun i hi => ?_⟩
    · simp (disch := omega) only [if_pos, if_neg, true_and, and_true, if_true]
      exact w1
    · simp (disch := omega) only [if_pos, if_neg, true_and, and_true, if_true]
      exact w2
    · simp (disch := omega) only [if_pos, if_neg, true_and, and_true, if_true]
      exact w3
    · simp (disch := omega) only [if_pos, if_neg, true_and, and_true, if_true]
      exact w4
    · by_cases e3 : t = s ∧ i = j
      · simp (disch := omega) only [if_pos, if_neg, true_and, and_true, if_true]
      · simp (disch := omega) only [if_pos, if_neg, true_and, and_true, if_true]
        exact w5 i hi
  · refine ⟨fun p hp => ?_, rfl⟩
    unfold Psh at hp
    funext i
    simp only [mi_get]
    simp (disch := omega) only [if_pos, if_neg, true_and, and_true, if_true]
