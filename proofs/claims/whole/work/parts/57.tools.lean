/-! TOOLS: small negative numbers, shifts, bits, codes -/
def mI (k : Nat) : Int32 := Int32.ofInt (-(k : Int))
theorem mI_int {k : Nat} (h : k < 2 ^ 31) : (mI k).toInt = -(k : Int) := fb_ofI (by omega) (by omega)
theorem mi1 : (-1 : Int32) = mI 1 := by decide
theorem mi2 : (-2 : Int32) = mI 2 := by decide
theorem mi3 : (-3 : Int32) = mI 3 := by decide
theorem mi4 : (-4 : Int32) = mI 4 := by decide
theorem lt_nm {a k : Nat} (ha : a < 2 ^ 31) (hk : k < 2 ^ 31) : nI a < mI k ↔ False := by
  rw [i_lt, nI_int ha, mI_int hk]; exact ⟨fun h => by omega, fun h => h.elim⟩
theorem lt_mn {a k : Nat} (ha : a < 2 ^ 31) (hk : k < 2 ^ 31) (h1 : 1 ≤ k) : mI k < nI a ↔ True := by
  rw [i_lt, nI_int ha, mI_int hk]; exact ⟨fun _ => trivial, fun _ => by omega⟩
theorem lt_mm {a k : Nat} (ha : a < 2 ^ 31) (hk : k < 2 ^ 31) : mI k < mI a ↔ a < k := by
  rw [i_lt, mI_int ha, mI_int hk]; omega
theorem eq_nm {a k : Nat} (ha : a < 2 ^ 31) (hk : k < 2 ^ 31) (h1 : 1 ≤ k) : nI a = mI k ↔ False := by
  rw [i_eq, nI_int ha, mI_int hk]; exact ⟨fun h => by omega, fun h => h.elim⟩
theorem eq_mn {a k : Nat} (ha : a < 2 ^ 31) (hk : k < 2 ^ 31) (h1 : 1 ≤ k) : mI k = nI a ↔ False := by
  rw [i_eq, nI_int ha, mI_int hk]; exact ⟨fun h => by omega, fun h => h.elim⟩
theorem eq_mm {a k : Nat} (ha : a < 2 ^ 31) (hk : k < 2 ^ 31) : mI k = mI a ↔ k = a := by
  rw [i_eq, mI_int ha, mI_int hk]; omega
theorem in_n {a L : Nat} (ha : a < 2 ^ 31) : rn_in (nI a) L = true ↔ a < L := by
  rw [in_iff, nI_int ha]; omega
theorem nI_1' (a : Nat) : (1 : Int32) + nI a = nI (1 + a) := nI_add 1 a
theorem a31 : ∀ k, k < 32 → nI k &&& 31 = nI k := by decide +kernel
theorem sm32 : ∀ k, k < 32 → ((nI k).toBitVec.smod 32).toNat = k := by decide +kernel
theorem shr_n {a k : Nat} (ha : a < 2 ^ 31) (hk : k < 32) : nI a >>> (nI k &&& 31) = nI (a / 2 ^ k) := pk_shrN ha _ k (by rw [a31 k hk]; exact sm32 k hk)
theorem shr_2 {a : Nat} (ha : a < 2 ^ 31) : nI a >>> ((2 : Int32) &&& 31) = nI (a / 4) := shr_n (k := 2) ha (by omega)
theorem shr_1 {a : Nat} (ha : a < 2 ^ 31) : nI a >>> ((1 : Int32) &&& 31) = nI (a / 2) := shr_n (k := 1) ha (by omega)
theorem shr_6 {a : Nat} (ha : a < 2 ^ 31) : nI a >>> ((6 : Int32) &&& 31) = nI (a / 64) := shr_n (k := 6) ha (by omega)
theorem shl_n {a k : Nat} (hk : k < 32) (h : a * 2 ^ k < 2 ^ 32) : nI a <<< (nI k &&& 31) = nI (a * 2 ^ k) := pk_shlN _ k (by rw [a31 k hk]; exact sm32 k hk) h
theorem shl_1 {k : Nat} (hk : k < 32) : (1 : Int32) <<< (nI k &&& 31) = nI (2 ^ k) := by
  have h := shl_n (a := 1) hk (by rw [Nat.one_mul]; exact Nat.pow_lt_pow_right (by decide) hk)
  rw [Nat.one_mul] at h
  exact h
theorem and_1 {a : Nat} (ha : a < 2 ^ 32) : nI a &&& 1 = nI (a % 2) := pk_andN ha 1 (by decide)
theorem and_3 {a : Nat} (ha : a < 2 ^ 32) : nI a &&& 3 = nI (a % 4) := pk_andN ha 2 (by decide)
theorem and_15 {a : Nat} (ha : a < 2 ^ 32) : nI a &&& 15 = nI (a % 16) := pk_andN ha 4 (by decide)
theorem bit_n {a k : Nat} (ha : a < 2 ^ 31) (hk : k < 32) : (nI a >>> (nI k &&& 31)) &&& 1 = nI (a.testBit k).toNat := by
  have h1 : a / 2 ^ k ≤ a := Nat.div_le_self _ _
  rw [shr_n ha hk, and_1 (by omega), Nat.testBit_eq_decide_div_mod_eq]
  by_cases h : a / 2 ^ k % 2 = 1
  · rw [decide_eq_true h, h]; rfl
  · rw [decide_eq_false h, show a / 2 ^ k % 2 = 0 by omega]; rfl
theorem bit_0 {a k : Nat} (ha : a < 2 ^ 31) (hk : k < 32) : ((nI a >>> (nI k &&& 31)) &&& 1) = 0 ↔ a.testBit k = false := by
  rw [bit_n ha hk]
  cases a.testBit k
  · exact ⟨fun _ => rfl, fun _ => by decide⟩
  · exact ⟨fun h => absurd h (by decide), fun h => by cases h⟩
theorem bit_1 {a k : Nat} (ha : a < 2 ^ 31) (hk : k < 32) : ((nI a >>> (nI k &&& 31)) &&& 1) = 1 ↔ a.testBit k = true := by
  rw [bit_n ha hk]
  cases a.testBit k
  · exact ⟨fun h => absurd h (by decide), fun h => by cases h⟩
  · exact ⟨fun _ => rfl, fun _ => by decide⟩
/-- a without b -/
def bd (a b : Nat) : Nat := Nat.bitwise (fun x y => x && !y) a b
theorem bd_bit (a b i : Nat) : (bd a b).testBit i = (a.testBit i && !b.testBit i) := by
  unfold bd
  rw [Nat.testBit_bitwise (by rfl)]
theorem bd_lt {a b k : Nat} (h : a < 2 ^ k) : bd a b < 2 ^ k := by
  apply Nat.lt_pow_two_of_testBit
  intro i hi
  rw [bd_bit, Nat.testBit_lt_two_pow (Nat.lt_of_lt_of_le h (Nat.pow_le_pow_right (by decide) hi))]
  rfl
theorem bt_n {a i : Nat} (hi : i < 32) : bt (nI a) i = a.testBit i := by
  unfold bt
  show (BitVec.ofNat 32 a).getLsbD i = _
  rw [BitVec.getLsbD_ofNat, decide_eq_true hi, Bool.true_and]
theorem nI_ext {a : Nat} {x : Int32} (h : ∀ i, i < 32 → bt x i = a.testBit i) : x = nI a := b_ext fun i hi => by rw [h i hi, bt_n hi]
theorem bd_n (a b : Nat) : nI a &&& (nI b ^^^ (-1)) = nI (bd a b) := by
  apply nI_ext
  intro i hi
  rw [b_and, b_xor, b_m1 i hi, bt_n hi, bt_n hi, bd_bit]
  cases b.testBit i <;> rfl
theorem or_lt {a b k : Nat} (ha : a < 2 ^ k) (hb : b < 2 ^ k) : a ||| b < 2 ^ k := Nat.or_lt_two_pow ha hb
theorem pw_lt {j k : Nat} (h : j < k) : 2 ^ j < 2 ^ k := Nat.pow_lt_pow_right (by decide) h
theorem bit_set (a j i : Nat) : (a ||| 2 ^ j).testBit i = (a.testBit i || decide (i = j)) := fb_bit_set a j i
theorem bit_high {a i k : Nat} (h : a < 2 ^ k) (hi : k ≤ i) : a.testBit i = false := Nat.testBit_lt_two_pow (Nat.lt_of_lt_of_le h (Nat.pow_le_pow_right (by decide) hi))
theorem rem_n {a d : Nat} (ha : a < 2 ^ 31) (h0 : 0 < d) (hd : d < 2 ^ 31) : rn_rem (nI a) (nI d) = nI (a % d) := by
  unfold rn_rem
  exact pk_rem ha h0 hd
/-! codes: a law that may be none is 4; an unseen card is 16 -/
def zT (v : Nat) : Int32 := if v < 4 then nI v else mI 4
def cT (v : Nat) : Int32 := if v < 4 then nI v else mI 1
def zC (v : Nat) : Int32 := if v < 16 then nI v else mI 1
def cC (v : Nat) : Int32 := if v < 16 then nI v else mI 4
theorem zT_lt {v : Nat} : zT v < 0 ↔ 4 ≤ v := by
  unfold zT
  split
  · rw [fa_lit 0, nI_ltI (by omega) (by omega)]; omega
  · rw [i_lt, mI_int (by omega)]; exact ⟨fun _ => by omega, fun _ => by decide⟩
theorem cT_lt {v : Nat} : cT v < 0 ↔ 4 ≤ v := by
  unfold cT
  split
  · rw [fa_lit 0, nI_ltI (by omega) (by omega)]; omega
  · rw [i_lt, mI_int (by omega)]; exact ⟨fun _ => by omega, fun _ => by decide⟩
theorem zC_lt {v : Nat} : zC v < 0 ↔ 16 ≤ v := by
  unfold zC
  split
  · rw [fa_lit 0, nI_ltI (by omega) (by omega)]; omega
  · rw [i_lt, mI_int (by omega)]; exact ⟨fun _ => by omega, fun _ => by decide⟩
theorem cC_4 {v : Nat} : cC v = -4 ↔ 16 ≤ v := by
  unfold cC
  rw [mi4]
  split
  · rw [eq_nm (by omega) (by omega) (by omega)]; exact ⟨fun h => h.elim, fun h => by omega⟩
  · exact ⟨fun _ => by omega, fun _ => rfl⟩
theorem zT_ans (v : Nat) : (if cT v < 0 then (-4 : Int32) else cT v) = zT v := by
  by_cases h : 4 ≤ v
  · rw [if_pos (cT_lt.mpr h), mi4]; unfold zT; rw [if_neg (by omega)]
  · rw [if_neg (mt cT_lt.mp h)]; unfold zT cT; rw [if_pos (by omega), if_pos (by omega)]
theorem eq_nT {s v : Nat} (hs : s < 4) : nI s = zT v ↔ s = v := by
  unfold zT
  split
  · rw [nI_eq (by omega) (by omega)]
  · rw [eq_nm (by omega) (by omega) (by omega)]; exact ⟨fun h => h.elim, fun h => by omega⟩
theorem eq_nc {s v : Nat} (hs : s < 4) : nI s = cT v ↔ s = v := by
  unfold cT
  split
  · rw [nI_eq (by omega) (by omega)]
  · rw [eq_nm (by omega) (by omega) (by omega)]; exact ⟨fun h => h.elim, fun h => by omega⟩
/-- a number of a call: one of k, or none of them -/
theorem i_cases (x : Int32) (k : Nat) (hk : k < 2 ^ 31) : (x < 0 ∧ ¬ (0 ≤ x.toInt)) ∨ (¬ x < 0 ∧ k ≤ x.toInt) ∨ ∃ j, j < k ∧ x = nI j := by
  rw [i_lt, show (0 : Int32).toInt = 0 by decide]
  by_cases h1 : x.toInt < 0
  · exact Or.inl ⟨h1, by omega⟩
  · by_cases h2 : (k : Int) ≤ x.toInt
    · exact Or.inr (Or.inl ⟨h1, h2⟩)
    · exact Or.inr (Or.inr (i_nat (by omega) (by omega)))
