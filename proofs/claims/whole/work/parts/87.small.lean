/-! SEARCH: small functions of the class -/
theorem f4k {c s : Nat} : (4 : Int32) * nI c + nI s = nI (4 * c + s) := by rw [k4, pk_mul, nI_add]
theorem m4k {c : Nat} : (4 : Int32) * nI c = nI (4 * c) := by rw [k4, pk_mul]
/-- a mask of the numbers below i that are so -/
def bm (p : Nat → Bool) : Nat → Nat
  | 0 => 0
  | i + 1 => bm p i ||| (if p i = true then 2 ^ i else 0)
theorem bm_lt (p : Nat → Bool) : ∀ i, bm p i < 2 ^ i
  | 0 => by show 0 < 1; omega
  | i + 1 => by
    rw [bm]
    refine or_lt (Nat.lt_of_lt_of_le (bm_lt p i) (Nat.pow_le_pow_right (by decide) (by omega))) ?_
    split
    · exact pw_lt (by omega)
    · exact Nat.two_pow_pos _
theorem bm_bit {p : Nat → Bool} {x : Nat} : ∀ {i : Nat}, (bm p i).testBit x = (decide (x < i) && p x)
  | 0 => by rw [bm, Nat.zero_testBit]; simp
  | i + 1 => by
    rw [bm, Nat.testBit_or, bm_bit]
    by_cases q : x = i
    · subst q
      rw [decide_eq_false (by omega), decide_eq_true (by omega)]
      cases h : p x
      · simp
      · simp
    · have e : (if p i = true then 2 ^ i else 0).testBit x = false := by
        split
        · rw [Nat.testBit_two_pow, decide_eq_false (by omega)]
        · exact Nat.zero_testBit x
      rw [e, Bool.or_false]
      by_cases z : x < i
      · rw [decide_eq_true z, decide_eq_true (by omega)]
      · rw [decide_eq_false z, decide_eq_false (by omega)]
theorem bm_c {p r : Nat → Bool} : ∀ {i : Nat}, (∀ x, x < i → p x = r x) → bm p i = bm r i
  | 0, _ => rfl
  | i + 1, h => by rw [bm, bm, bm_c fun x hx => h x (by omega), h i (by omega)]
def CLm (S : Nat → Nat) (q : Nat) (m : rn_Mem) : Prop := cCl S (m.1 q) (m.1 (q + 1)) (m.1 (q + 2)) (m.1 (q + 3)) (m.1 (q + 4))
theorem WK_lt {S : Nat → Nat} (wg : WG S) {k : Nat} (h : WK S k) : S (64 + 4 * k) < 4 ∧ S (65 + 4 * k) < 16 ∧ S (66 + 4 * k) < 16 ∧ S (67 + 4 * k) < 4 ∧ (S (64 + 4 * k) = 3 → S (65 + 4 * k) < 4 ∧ S (66 + 4 * k) < 4) := by
  obtain ⟨w1, w2, w3, w4, _⟩ := wg
  rcases h with h | h | h | h <;> omega
def ahB (S : Nat → Nat) (ch cd i : Nat) : Bool := decide (S (64 + 4 * i) = 0 ∧ S (66 + 4 * i) = cd ∧ S (65 + 4 * i) ≠ ch)
theorem againstHolding_sp {S : Nat → Nat} {q ch cd nf : Nat} {m : rn_Mem} (wg : WG S) (wc : WC S) (hC : CLm S q m) (hch : ch < 100) (hcd : cd < 100) (hnf : 10 < nf) : cl_againstHolding nf q (nI ch) (nI cd) m = some (nI (bm (ahB S ch cd) (S 10)), m) := by
  obtain ⟨c0, c1⟩ := hC
  have h6 := wc.1
  have loop : ∀ (r i nf : Nat), i + r = S 10 → r < nf → cl_againstHolding_l5 q (nI ch) (nI cd) nf (nI (bm (ahB S ch cd) i)) (nI i) m = some (nI (bm (ahB S ch cd) (S 10)), m) := by
    intro r
    induction r with
    | zero =>
      intro i nf e hnf
      obtain ⟨nf, rfl⟩ : ∃ e, nf = e + 1 := ⟨nf - 1, by omega⟩
      obtain rfl : i = S 10 := by omega
      unfold cl_againstHolding_l5
      rw [c0, if_neg (by rw [nI_ltI (by omega) (by omega)]; omega)]
    | succ r ih =>
      intro i nf e hnf
      obtain ⟨nf, rfl⟩ : ∃ e, nf = e + 1 := ⟨nf - 1, by omega⟩
      have hin : rn_in (nI i) 6 = true := (in_n (by omega)).mpr (by omega)
      obtain ⟨d1, d2, d3, d4⟩ := c1 i (by omega)
      obtain ⟨l1, l2, l3, l4, _⟩ := WK_lt wg (wc.2 i (by omega))
      have h := ih (i + 1) nf (by omega) (by omega)
      rw [bm] at h
      unfold cl_againstHolding_l5
      rw [c0, if_pos (by rw [nI_ltI (by omega) (by omega)]; omega)]
      simp only [if_pos hin, nI_n (show i < 2 ^ 31 by omega), d1, d2, d3]
      by_cases q1 : S (64 + 4 * i) = 0
      · rw [if_pos (by rw [q1]; rfl)]
        by_cases q2 : S (66 + 4 * i) = cd
        · rw [if_pos (by rw [q2])]
          by_cases q3 : S (65 + 4 * i) = ch
          · rw [if_pos (by rw [q3])]
            rw [if_neg (by unfold ahB; rw [decide_eq_false (fun z => z.2.2 q3)]; decide), Nat.or_zero] at h
            simp only [Option.bind_some, nI_1]
            exact h
          · rw [if_neg (by rw [nI_eq (by omega) (by omega)]; exact q3)]
            rw [if_pos (by unfold ahB; exact decide_eq_true ⟨q1, q2, q3⟩)] at h
            simp only [Option.bind_some, nI_1]
            rw [shl_1 (by omega), fa_or]
            exact h
        · rw [if_neg (by rw [nI_eq (by omega) (by omega)]; exact q2)]
          rw [if_neg (by unfold ahB; rw [decide_eq_false (fun z => q2 z.2.1)]; decide), Nat.or_zero] at h
          simp only [Option.bind_some, nI_1]
          exact h
      · rw [if_neg (nI_ne0 (by omega) (by omega))]
        rw [if_neg (by unfold ahB; rw [decide_eq_false (fun z => q1 z.1)]; decide), Nat.or_zero] at h
        simp only [Option.bind_some, nI_1]
        exact h
  unfold cl_againstHolding
  rw [show cl_againstHolding_l5 q (nI ch) (nI cd) nf 0 0 m = _ from loop (S 10) 0 nf (by omega) (by omega)]
  rfl
def agB (S : Nat → Nat) (k ld ca la su i : Nat) : Bool := decide (S (64 + 4 * i) = 1 ∧ S (66 + 4 * i) = k ∧ S (65 + 4 * i) ≠ ld) || (decide (S (64 + 4 * i) = 2) && (ca.testBit (S (65 + 4 * i)) && !la.testBit (S (66 + 4 * i)))) || (decide (S (64 + 4 * i) = 3 ∧ S (67 + 4 * i) = k) && su.testBit (4 * S (65 + 4 * i) + S (66 + 4 * i)))
theorem againstTrick_sp {S : Nat → Nat} {q k ld ca la su nf : Nat} {m : rn_Mem} (wg : WG S) (wc : WC S) (hC : CLm S q m) (hk : k < 100) (hld : ld < 100) (hca : ca < 65536) (hla : la < 65536) (hsu : su < 65536) (hnf : 10 < nf) : cl_againstTrick nf q (nI k) (nI ld) (nI ca) (nI la) (nI su) m = some (nI (bm (agB S k ld ca la su) (S 10)), m) := by
  obtain ⟨c0, c1⟩ := hC
  have h6 := wc.1
  have loop : ∀ (r i nf : Nat), i + r = S 10 → r < nf → cl_againstTrick_l6 q (nI k) (nI ld) (nI ca) (nI la) (nI su) nf (nI (bm (agB S k ld ca la su) i)) (nI i) m = some (nI (bm (agB S k ld ca la su) (S 10)), m) := by
    intro r
    induction r with
    | zero =>
      intro i nf e hnf
      obtain ⟨nf, rfl⟩ : ∃ e, nf = e + 1 := ⟨nf - 1, by omega⟩
      obtain rfl : i = S 10 := by omega
      unfold cl_againstTrick_l6
      rw [c0, if_neg (by rw [nI_ltI (by omega) (by omega)]; omega)]
    | succ r ih =>
      intro i nf e hnf
      obtain ⟨nf, rfl⟩ : ∃ e, nf = e + 1 := ⟨nf - 1, by omega⟩
      have hin : rn_in (nI i) 6 = true := (in_n (by omega)).mpr (by omega)
      obtain ⟨d1, d2, d3, d4⟩ := c1 i (by omega)
      obtain ⟨l1, l2, l3, l4, l5⟩ := WK_lt wg (wc.2 i (by omega))
      have h := ih (i + 1) nf (by omega) (by omega)
      rw [bm] at h
      have hbit : (if nI (S (64 + 4 * i)) = 1 then (if nI (S (66 + 4 * i)) = nI k then (if nI (S (65 + 4 * i)) = nI ld then some (0 : Int32) else some 1) else some 0).bind fun x11 => some x11 else if nI (S (64 + 4 * i)) = 2 then (if ((nI ca >>> (nI (S (65 + 4 * i)) &&& 31)) &&& 1) = 0 then some (0 : Int32) else if ((nI la >>> (nI (S (66 + 4 * i)) &&& 31)) &&& 1) = 0 then some 1 else some 0).bind fun x18 => some x18 else if nI (S (64 + 4 * i)) = 3 then (if nI (S (67 + 4 * i)) = nI k then (if ((nI su >>> ((((4 : Int32) * nI (S (65 + 4 * i))) + nI (S (66 + 4 * i))) &&& 31)) &&& 1) = 0 then some (0 : Int32) else some 1) else some 0).bind fun x26 => some x26 else some 0) = some (if agB S k ld ca la su i = true then (1 : Int32) else 0) := by
        unfold agB
        obtain z | z | z | z : S (64 + 4 * i) = 0 ∨ S (64 + 4 * i) = 1 ∨ S (64 + 4 * i) = 2 ∨ S (64 + 4 * i) = 3 := by omega
        · rw [z]; rfl
        · rw [z, if_pos (show nI 1 = 1 from rfl)]
          simp only [show ¬ (1 : Nat) = 2 by decide, show ¬ (1 : Nat) = 3 by decide, decide_false, Bool.false_and, Bool.or_false, true_and, false_and]
          by_cases q1 : S (66 + 4 * i) = k
          · by_cases q2 : S (65 + 4 * i) = ld
            · rw [if_pos (by rw [q1]), if_pos (by rw [q2]), decide_eq_false (fun y => y.2 q2)]; rfl
            · rw [if_pos (by rw [q1]), if_neg (by rw [nI_eq (by omega) (by omega)]; exact q2), decide_eq_true ⟨q1, q2⟩]; rfl
          · rw [if_neg (by rw [nI_eq (by omega) (by omega)]; exact q1), decide_eq_false (fun y => q1 y.1)]; rfl
        · rw [z, if_neg (show ¬ nI 2 = 1 by decide), if_pos (show nI 2 = 2 from rfl)]
          simp only [show ¬ (2 : Nat) = 1 by decide, show ¬ (2 : Nat) = 3 by decide, decide_false, decide_true, Bool.false_and, Bool.or_false, Bool.false_or, Bool.true_and, false_and, bit_0 (show ca < 2 ^ 31 by omega) (show S (65 + 4 * i) < 32 by omega), bit_0 (show la < 2 ^ 31 by omega) (show S (66 + 4 * i) < 32 by omega)]
          cases ca.testBit (S (65 + 4 * i)) <;> cases la.testBit (S (66 + 4 * i)) <;> rfl
        · have := l5 z
          rw [z, if_neg (show ¬ nI 3 = 1 by decide), if_neg (show ¬ nI 3 = 2 by decide), if_pos (show nI 3 = 3 from rfl), f4k]
          simp only [show ¬ (3 : Nat) = 1 by decide, show ¬ (3 : Nat) = 2 by decide, decide_false, Bool.false_and, Bool.false_or, true_and, false_and, bit_0 (show su < 2 ^ 31 by omega) (show 4 * S (65 + 4 * i) + S (66 + 4 * i) < 32 by omega)]
          by_cases q1 : S (67 + 4 * i) = k
          · rw [if_pos (by rw [q1]), decide_eq_true q1]
            cases su.testBit (4 * S (65 + 4 * i) + S (66 + 4 * i)) <;> rfl
          · rw [if_neg (by rw [nI_eq (by omega) (by omega)]; exact q1), decide_eq_false q1]; rfl
      unfold cl_againstTrick_l6
      rw [c0, if_pos (by rw [nI_ltI (by omega) (by omega)]; omega)]
      simp only [if_pos hin, nI_n (show i < 2 ^ 31 by omega), d1, d2, d3, d4]
      rw [hbit]
      simp only [Option.bind_some]
      by_cases g : agB S k ld ca la su i = true
      · rw [if_pos g] at h ⊢
        rw [if_neg (show ¬ (1 : Int32) = 0 by decide)]
        simp only [Option.bind_some, nI_1]
        rw [shl_1 (by omega), fa_or]
        exact h
      · rw [if_neg g] at h ⊢
        rw [if_pos rfl]
        rw [Nat.or_zero] at h
        simp only [Option.bind_some, nI_1]
        exact h
  unfold cl_againstTrick
  rw [show cl_againstTrick_l6 q (nI k) (nI ld) (nI ca) (nI la) (nI su) nf 0 0 m = _ from loop (S 10) 0 nf (by omega) (by omega)]
  rfl
def sak (S : Nat → Nat) : Nat → Nat
  | 0 => 0
  | i + 1 => sak S i ||| (if S (64 + 4 * i) = 3 then 2 ^ (4 * S (65 + 4 * i) + S (66 + 4 * i)) else 0)
theorem sak_lt {S : Nat → Nat} (wg : WG S) : ∀ {i : Nat}, (∀ k, k < i → WK S k) → sak S i < 65536
  | 0, _ => by rw [sak]; omega
  | i + 1, h => by
    rw [sak]
    refine or_lt (k := 16) (sak_lt wg fun k hk => h k (by omega)) ?_
    have := (WK_lt wg (h i (by omega))).2.2.2.2
    split
    · rename_i z
      have := this z
      exact pw_lt (by omega)
    · decide
theorem sak_bit {S : Nat → Nat} {x : Nat} : ∀ {i : Nat}, (sak S i).testBit x = true ↔ ∃ j, j < i ∧ S (64 + 4 * j) = 3 ∧ 4 * S (65 + 4 * j) + S (66 + 4 * j) = x
  | 0 => by
    rw [sak, Nat.zero_testBit]
    exact ⟨fun h => (by cases h), fun ⟨j, hj, _⟩ => absurd hj (Nat.not_lt_zero j)⟩
  | i + 1 => by
    rw [sak, Nat.testBit_or, Bool.or_eq_true, sak_bit]
    constructor
    · rintro (⟨j, hj, h⟩ | h)
      · exact ⟨j, by omega, h⟩
      · split at h
        · rename_i z
          rw [Nat.testBit_two_pow, decide_eq_true_iff] at h
          exact ⟨i, by omega, z, h⟩
        · rw [Nat.zero_testBit] at h; cases h
    · rintro ⟨j, hj, h1, h2⟩
      by_cases q : j = i
      · subst q
        rw [if_pos h1, Nat.testBit_two_pow, decide_eq_true_iff]
        exact Or.inr h2
      · exact Or.inl ⟨j, by omega, h1, h2⟩
theorem suitsAsked_sp {S : Nat → Nat} {q nf : Nat} {m : rn_Mem} (wg : WG S) (wc : WC S) (hC : CLm S q m) (hnf : 10 < nf) : cl_suitsAsked nf q m = some (nI (sak S (S 10)), m) := by
  obtain ⟨c0, c1⟩ := hC
  have h6 := wc.1
  have loop : ∀ (r i nf : Nat), i + r = S 10 → r < nf → cl_suitsAsked_l4 q nf (nI (sak S i)) (nI i) m = some (nI (sak S (S 10)), m) := by
    intro r
    induction r with
    | zero =>
      intro i nf e hnf
      obtain ⟨nf, rfl⟩ : ∃ e, nf = e + 1 := ⟨nf - 1, by omega⟩
      obtain rfl : i = S 10 := by omega
      unfold cl_suitsAsked_l4
      rw [c0, if_neg (by rw [nI_ltI (by omega) (by omega)]; omega)]
    | succ r ih =>
      intro i nf e hnf
      obtain ⟨nf, rfl⟩ : ∃ e, nf = e + 1 := ⟨nf - 1, by omega⟩
      have hin : rn_in (nI i) 6 = true := (in_n (by omega)).mpr (by omega)
      obtain ⟨d1, d2, d3, d4⟩ := c1 i (by omega)
      obtain ⟨l1, l2, l3, l4, l5⟩ := WK_lt wg (wc.2 i (by omega))
      have h := ih (i + 1) nf (by omega) (by omega)
      rw [sak] at h
      unfold cl_suitsAsked_l4
      rw [c0, if_pos (by rw [nI_ltI (by omega) (by omega)]; omega)]
      simp only [if_pos hin, nI_n (show i < 2 ^ 31 by omega), d1, d2, d3]
      by_cases z : S (64 + 4 * i) = 3
      · have := l5 z
        rw [if_pos z] at h
        rw [if_pos (by rw [z]; rfl), f4k, shl_1 (by omega), fa_or]
        simp only [Option.bind_some, nI_1]
        exact h
      · rw [if_neg z, Nat.or_zero] at h
        rw [if_neg (by rw [k3, nI_eq (by omega) (by omega)]; exact z)]
        simp only [Option.bind_some, nI_1]
        exact h
  unfold cl_suitsAsked
  rw [show cl_suitsAsked_l4 q nf 0 0 m = _ from loop (S 10) 0 nf (by omega) (by omega)]
  rfl
/-! how many bits -/
def pcI (a0 : Int32) : Int32 :=
  let x1 := a0 - (((a0.toUInt32 >>> ((1 : Int32).toUInt32 &&& Int32.toUInt32 31)).toInt32) &&& 1431655765)
  let x2 := (x1 &&& 858993459) + (((x1.toUInt32 >>> ((2 : Int32).toUInt32 &&& Int32.toUInt32 31)).toInt32) &&& 858993459)
  let x3 := (x2 + ((x2.toUInt32 >>> ((4 : Int32).toUInt32 &&& Int32.toUInt32 31)).toInt32)) &&& 252645135
  let x4 := x3 + ((x3.toUInt32 >>> ((8 : Int32).toUInt32 &&& Int32.toUInt32 31)).toInt32)
  let x5 := x4 + ((x4.toUInt32 >>> ((16 : Int32).toUInt32 &&& Int32.toUInt32 31)).toInt32)
  x5 &&& 63
theorem bitCount_pc (nf : Nat) (a : Int32) (m : rn_Mem) : ja_bitCount nf a m = some (pcI a, m) := rfl
theorem pc64 : ∀ x, x < 64 → pcI (nI x) = nI (cnt x) := by decide +kernel
theorem pcC : ∀ x, x < 16 → pcI (nI (x % 2 + 16 * (x / 2 % 2) + 256 * (x / 4 % 2) + 4096 * (x / 8))) = nI (cnt (x % 2 + 16 * (x / 2 % 2) + 256 * (x / 4 % 2) + 4096 * (x / 8))) := by decide +kernel
/-- the chairs of which there is a suit -/
def cin (x : Nat) : Nat := ((x ||| x / 2) ||| (x ||| x / 2) / 4) &&& 4369
theorem chairsIn_sp {x nf : Nat} {m : rn_Mem} (hx : x < 65536) : se_chairsIn nf (nI x) m = some (nI (cin x), m) := by
  have h1 : x ||| x / 2 < 2 ^ 16 := or_lt hx (by omega)
  unfold se_chairsIn cin
  simp only [Option.bind_some]
  rw [shr_1 (by omega), fa_or, shr_2 (by omega), fa_or, show (4369 : Int32) = nI 4369 from rfl, fa_and]
theorem b4369 : ∀ y, y < 16 → (4369).testBit y = decide (y % 4 = 0) := by decide
theorem cin_bit {x y : Nat} (hx : x < 65536) : (cin x).testBit y = true ↔ ∃ c s, c < 4 ∧ s < 4 ∧ y = 4 * c ∧ x.testBit (4 * c + s) = true := by
  unfold cin
  by_cases hy : y < 16
  case neg =>
    rw [Nat.testBit_and, show (4369 : Nat).testBit y = false from bit_high (k := 13) (by decide) (by omega), Bool.and_false]
    exact ⟨fun h => (by cases h), fun ⟨c, s, h1, h2, h3, _⟩ => by omega⟩
  rw [Nat.testBit_and, b4369 y hy, Nat.testBit_or, Nat.testBit_or, show x / 2 = x >>> 1 by rw [Nat.shiftRight_eq_div_pow], show (x ||| x >>> 1) / 4 = (x ||| x >>> 1) >>> 2 from (Nat.shiftRight_eq_div_pow (x ||| x >>> 1) 2).symm, Nat.testBit_shiftRight, Nat.testBit_shiftRight, Nat.testBit_or, Nat.testBit_shiftRight]
  simp only [Bool.and_eq_true, Bool.or_eq_true, decide_eq_true_iff]
  constructor
  · rintro ⟨h, hm⟩
    obtain ⟨c, rfl⟩ : ∃ c, y = 4 * c := ⟨y / 4, by omega⟩
    rcases h with (h | h) | (h | h)
    · exact ⟨c, 0, by omega, by omega, rfl, by rw [Nat.add_zero]; exact h⟩
    · exact ⟨c, 1, by omega, by omega, rfl, by rw [Nat.add_comm]; exact h⟩
    · exact ⟨c, 2, by omega, by omega, rfl, by rw [Nat.add_comm]; exact h⟩
    · exact ⟨c, 3, by omega, by omega, rfl, by rw [show 4 * c + 3 = 1 + (2 + 4 * c) by omega]; exact h⟩
  · rintro ⟨c, s, hc, hs, rfl, h⟩
    refine ⟨?_, by omega⟩
    obtain rfl | rfl | rfl | rfl : s = 0 ∨ s = 1 ∨ s = 2 ∨ s = 3 := by omega
    · exact Or.inl (Or.inl h)
    · exact Or.inl (Or.inr (by rw [Nat.add_comm]; exact h))
    · exact Or.inr (Or.inl (by rw [Nat.add_comm]; exact h))
    · exact Or.inr (Or.inr (by rw [show 1 + (2 + 4 * c) = 4 * c + 3 by omega]; exact h))
theorem cin_lt (x : Nat) : cin x < 65536 := Nat.lt_of_le_of_lt Nat.and_le_right (by decide)
theorem c4369 : ∀ y, y < 65536 → (∀ i, i < 16 → y.testBit i = true → i % 4 = 0) → ∃ x, x < 16 ∧ y = x % 2 + 16 * (x / 2 % 2) + 256 * (x / 4 % 2) + 4096 * (x / 8) := by
  intro y hy h
  refine ⟨(y.testBit 0).toNat + 2 * (y.testBit 4).toNat + 4 * (y.testBit 8).toNat + 8 * (y.testBit 12).toNat, ?_, ?_⟩
  · cases y.testBit 0 <;> cases y.testBit 4 <;> cases y.testBit 8 <;> cases y.testBit 12 <;> decide
  · apply Nat.eq_of_testBit_eq
    intro i
    by_cases hi : i < 16
    · have hb : ∀ i, i < 16 → i % 4 ≠ 0 → y.testBit i = false := fun i hi hm => by
        cases q : y.testBit i with
        | false => rfl
        | true => exact absurd (h i hi q) hm
      match i, hi with
      | 0, _ => cases y.testBit 0 <;> cases y.testBit 4 <;> cases y.testBit 8 <;> cases y.testBit 12 <;> decide
      | 1, _ => rw [hb 1 (by omega) (by omega)]; cases y.testBit 0 <;> cases y.testBit 4 <;> cases y.testBit 8 <;> cases y.testBit 12 <;> decide
      | 2, _ => rw [hb 2 (by omega) (by omega)]; cases y.testBit 0 <;> cases y.testBit 4 <;> cases y.testBit 8 <;> cases y.testBit 12 <;> decide
      | 3, _ => rw [hb 3 (by omega) (by omega)]; cases y.testBit 0 <;> cases y.testBit 4 <;> cases y.testBit 8 <;> cases y.testBit 12 <;> decide
      | 4, _ => cases y.testBit 0 <;> cases y.testBit 4 <;> cases y.testBit 8 <;> cases y.testBit 12 <;> decide
      | 5, _ => rw [hb 5 (by omega) (by omega)]; cases y.testBit 0 <;> cases y.testBit 4 <;> cases y.testBit 8 <;> cases y.testBit 12 <;> decide
      | 6, _ => rw [hb 6 (by omega) (by omega)]; cases y.testBit 0 <;> cases y.testBit 4 <;> cases y.testBit 8 <;> cases y.testBit 12 <;> decide
      | 7, _ => rw [hb 7 (by omega) (by omega)]; cases y.testBit 0 <;> cases y.testBit 4 <;> cases y.testBit 8 <;> cases y.testBit 12 <;> decide
      | 8, _ => cases y.testBit 0 <;> cases y.testBit 4 <;> cases y.testBit 8 <;> cases y.testBit 12 <;> decide
      | 9, _ => rw [hb 9 (by omega) (by omega)]; cases y.testBit 0 <;> cases y.testBit 4 <;> cases y.testBit 8 <;> cases y.testBit 12 <;> decide
      | 10, _ => rw [hb 10 (by omega) (by omega)]; cases y.testBit 0 <;> cases y.testBit 4 <;> cases y.testBit 8 <;> cases y.testBit 12 <;> decide
      | 11, _ => rw [hb 11 (by omega) (by omega)]; cases y.testBit 0 <;> cases y.testBit 4 <;> cases y.testBit 8 <;> cases y.testBit 12 <;> decide
      | 12, _ => cases y.testBit 0 <;> cases y.testBit 4 <;> cases y.testBit 8 <;> cases y.testBit 12 <;> decide
      | 13, _ => rw [hb 13 (by omega) (by omega)]; cases y.testBit 0 <;> cases y.testBit 4 <;> cases y.testBit 8 <;> cases y.testBit 12 <;> decide
      | 14, _ => rw [hb 14 (by omega) (by omega)]; cases y.testBit 0 <;> cases y.testBit 4 <;> cases y.testBit 8 <;> cases y.testBit 12 <;> decide
      | 15, _ => rw [hb 15 (by omega) (by omega)]; cases y.testBit 0 <;> cases y.testBit 4 <;> cases y.testBit 8 <;> cases y.testBit 12 <;> decide
      | i + 16, h => exact absurd h (by omega)
    · rw [bit_high (k := 16) hy (by omega)]
      symm
      apply bit_high (k := 16) _ (by omega)
      cases y.testBit 0 <;> cases y.testBit 4 <;> cases y.testBit 8 <;> cases y.testBit 12 <;> decide
theorem pc_cin {x : Nat} (hx : x < 65536) : pcI (nI (cin x)) = nI (cnt (cin x)) := by
  obtain ⟨z, hz, e⟩ := c4369 (cin x) (cin_lt x) (fun i hi h => by
    obtain ⟨c, s, h1, h2, h3, _⟩ := (cin_bit hx).mp h
    omega)
  rw [e]
  exact pcC z hz
