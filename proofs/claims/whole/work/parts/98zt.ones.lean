/-! SEARCH: the bits of a number below 2^31 are counted rightly -/
theorem ush {a k : Nat} (ha : a < 2 ^ 32) (hk : k < 32) : ((nI a).toUInt32 >>> ((nI k).toUInt32 &&& Int32.toUInt32 31)).toInt32 = nI (a / 2 ^ k) := by
  apply nI_ext
  intro i hi
  rw [b_ushr k hk, Nat.testBit_div_two_pow]
  by_cases y : k + i < 32
  · rw [bt_n y]
    congr 1
    omega
  · rw [b_big (by omega)]
    exact (bit_high ha (by omega)).symm
theorem tb256 {b h i : Nat} (hb : b < 256) : (b + 256 * h).testBit i = if i < 8 then b.testBit i else h.testBit (i - 8) := by
  have e : b + 256 * h = 2 ^ 8 * h ||| b := by
    rw [← Nat.two_pow_add_eq_or_of_lt (show b < 2 ^ 8 from hb)]
    omega
  rw [e, Nat.testBit_or, Nat.mul_comm, ml_bit]
  by_cases y : i < 8
  · rw [if_pos y, decide_eq_false (by omega), Bool.false_and, Bool.false_or]
  · rw [if_neg y, decide_eq_true (by omega), Bool.true_and, bit_high (k := 8) hb (by omega), Bool.or_false]
theorem and256 {b h d c : Nat} (hb : b < 256) (hd : d < 256) : (b + 256 * h) &&& (d + 256 * c) = (b &&& d) + 256 * (h &&& c) := by
  have hbd : b &&& d < 256 := Nat.lt_of_le_of_lt Nat.and_le_left hb
  apply Nat.eq_of_testBit_eq
  intro i
  rw [Nat.testBit_and, tb256 hb, tb256 hd, tb256 hbd]
  by_cases y : i < 8
  · rw [if_pos y, if_pos y, if_pos y, Nat.testBit_and]
  · rw [if_neg y, if_neg y, if_neg y, Nat.testBit_and]
theorem and4 {a b c d e : Nat} (ha : a < 256) (hb : b < 256) (hc : c < 256) (he : e < 256) : (a + 256 * (b + 256 * (c + 256 * d))) &&& (e + 256 * (e + 256 * (e + 256 * e))) = (a &&& e) + 256 * ((b &&& e) + 256 * ((c &&& e) + 256 * (d &&& e))) := by rw [and256 ha he, and256 hb he, and256 hc he]
def pC (b : Nat) : Nat := (b / 2) &&& 85
def pD (b : Nat) : Nat := b - pC b
def pE (d : Nat) : Nat := (d &&& 51) + ((d / 4) &&& 51)
def pP (b : Nat) : Nat := (pE (pD b) + pE (pD b) / 16) % 16
theorem pf1 : ∀ b, b < 256 → ∀ e, e < 2 → (b / 2 + 128 * e) &&& 85 = pC b := by decide +kernel
theorem pf2 : ∀ b, b < 256 → pC b ≤ b ∧ pD b < 256 ∧ (pE (pD b) ≤ 68 ∧ pE (pD b) % 16 ≤ 4) ∧ pP b ≤ 8 ∧ pP b = fb_ct (fun x => b.testBit x) 8 := by decide +kernel
theorem pf3 : ∀ d, d < 256 → ∀ e, e < 4 → (d / 4 + 64 * e) &&& 51 = (d / 4) &&& 51 := by decide +kernel
theorem pf15 {v : Nat} : v &&& 15 = v % 16 := Nat.and_two_pow_sub_one_eq_mod v 4
theorem pfin {p q r s : Nat} (hp : p ≤ 8) (hq : q ≤ 8) (hr : r ≤ 8) (hs : s ≤ 8) : (p + 256 * (q + 256 * (r + 256 * s)) + (p + 256 * (q + 256 * (r + 256 * s))) / 256 + (p + 256 * (q + 256 * (r + 256 * s)) + (p + 256 * (q + 256 * (r + 256 * s))) / 256) / 65536) % 64 = p + q + r + s := by
  have h1 : (p + 256 * (q + 256 * (r + 256 * s))) / 256 = q + 256 * (r + 256 * s) := by omega
  rw [h1]
  have h2 : (p + 256 * (q + 256 * (r + 256 * s)) + (q + 256 * (r + 256 * s))) / 65536 = r + s + 256 * s := by omega
  rw [h2]
  omega
theorem pc_all {x : Nat} (hx : x < 2 ^ 31) : pcI (nI x) = nI (fb_ct (fun i => x.testBit i) 32) := by
  obtain ⟨b0, b1, b2, b3, h0, h1, h2, h3, rfl⟩ : ∃ b0 b1 b2 b3, b0 < 256 ∧ b1 < 256 ∧ b2 < 256 ∧ b3 < 256 ∧ x = b0 + 256 * (b1 + 256 * (b2 + 256 * b3)) := ⟨x % 256, x / 256 % 256, x / 65536 % 256, x / 16777216, by omega, by omega, by omega, by omega, by omega⟩
  obtain ⟨c0, d0, e0, q0, r0⟩ := pf2 b0 h0
  obtain ⟨c1, d1, e1, q1, r1⟩ := pf2 b1 h1
  obtain ⟨c2, d2, e2, q2, r2⟩ := pf2 b2 h2
  obtain ⟨c3, d3, e3, q3, r3⟩ := pf2 b3 h3
  have s1 : (b0 + 256 * (b1 + 256 * (b2 + 256 * b3))) / 2 &&& 1431655765 = pC b0 + 256 * (pC b1 + 256 * (pC b2 + 256 * pC b3)) := by
    rw [show (b0 + 256 * (b1 + 256 * (b2 + 256 * b3))) / 2 = (b0 / 2 + 128 * (b1 % 2)) + 256 * ((b1 / 2 + 128 * (b2 % 2)) + 256 * ((b2 / 2 + 128 * (b3 % 2)) + 256 * (b3 / 2))) by omega, show (1431655765 : Nat) = 85 + 256 * (85 + 256 * (85 + 256 * 85)) from rfl, and4 (by omega) (by omega) (by omega) (by omega), pf1 b0 h0 _ (by omega), pf1 b1 h1 _ (by omega), pf1 b2 h2 _ (by omega)]
    rfl
  have t1 : nI (b0 + 256 * (b1 + 256 * (b2 + 256 * b3))) - (((nI (b0 + 256 * (b1 + 256 * (b2 + 256 * b3)))).toUInt32 >>> ((1 : Int32).toUInt32 &&& Int32.toUInt32 31)).toInt32 &&& 1431655765) = nI (pD b0 + 256 * (pD b1 + 256 * (pD b2 + 256 * pD b3))) := by
    rw [show (1 : Int32) = nI 1 from rfl, ush (by omega) (by omega), show (1431655765 : Int32) = nI 1431655765 from rfl, fa_and, Nat.pow_one, s1, pk_sub (by omega)]
    congr 1
    unfold pD
    omega
  have t2 : (nI (pD b0 + 256 * (pD b1 + 256 * (pD b2 + 256 * pD b3))) &&& 858993459) + (((nI (pD b0 + 256 * (pD b1 + 256 * (pD b2 + 256 * pD b3)))).toUInt32 >>> ((2 : Int32).toUInt32 &&& Int32.toUInt32 31)).toInt32 &&& 858993459) = nI (pE (pD b0) + 256 * (pE (pD b1) + 256 * (pE (pD b2) + 256 * pE (pD b3)))) := by
    rw [show (2 : Int32) = nI 2 from rfl, ush (by omega) (by omega), show (858993459 : Int32) = nI 858993459 from rfl, fa_and, fa_and, show (2 : Nat) ^ 2 = 4 from rfl, show (pD b0 + 256 * (pD b1 + 256 * (pD b2 + 256 * pD b3))) / 4 = (pD b0 / 4 + 64 * (pD b1 % 4)) + 256 * ((pD b1 / 4 + 64 * (pD b2 % 4)) + 256 * ((pD b2 / 4 + 64 * (pD b3 % 4)) + 256 * (pD b3 / 4))) by omega, show (858993459 : Nat) = 51 + 256 * (51 + 256 * (51 + 256 * 51)) from rfl, and4 (by omega) (by omega) (by omega) (by omega), and4 (by omega) (by omega) (by omega) (by omega), pf3 _ d0 _ (by omega), pf3 _ d1 _ (by omega), pf3 _ d2 _ (by omega), nI_add]
    congr 1
    unfold pE
    omega
  generalize g0 : pE (pD b0) = E0 at *
  generalize g1 : pE (pD b1) = E1 at *
  generalize g2 : pE (pD b2) = E2 at *
  generalize g3 : pE (pD b3) = E3 at *
  have t3 : (nI (E0 + 256 * (E1 + 256 * (E2 + 256 * E3))) + ((nI (E0 + 256 * (E1 + 256 * (E2 + 256 * E3)))).toUInt32 >>> ((4 : Int32).toUInt32 &&& Int32.toUInt32 31)).toInt32) &&& 252645135 = nI (pP b0 + 256 * (pP b1 + 256 * (pP b2 + 256 * pP b3))) := by
    rw [show (4 : Int32) = nI 4 from rfl, ush (by omega) (by omega), nI_add, show (252645135 : Int32) = nI 252645135 from rfl, fa_and, show (2 : Nat) ^ 4 = 16 from rfl, show E0 + 256 * (E1 + 256 * (E2 + 256 * E3)) + (E0 + 256 * (E1 + 256 * (E2 + 256 * E3))) / 16 = (E0 + E0 / 16 + 16 * (E1 % 16)) + 256 * ((E1 + E1 / 16 + 16 * (E2 % 16)) + 256 * ((E2 + E2 / 16 + 16 * (E3 % 16)) + 256 * (E3 + E3 / 16))) by omega, show (252645135 : Nat) = 15 + 256 * (15 + 256 * (15 + 256 * 15)) from rfl, and4 (by omega) (by omega) (by omega) (by omega), pf15, pf15, pf15, pf15]
    congr 1
    unfold pP
    rw [g0, g1, g2, g3]
    omega
  have t4 : pcI (nI (b0 + 256 * (b1 + 256 * (b2 + 256 * b3)))) = nI (pP b0 + pP b1 + pP b2 + pP b3) := by
    unfold pcI
    simp only [t1, t2, t3]
    rw [show (8 : Int32) = nI 8 from rfl, show (16 : Int32) = nI 16 from rfl, ush (by omega) (by omega), nI_add, ush (by omega) (by omega), nI_add, show (63 : Int32) = nI (2 ^ 6 - 1) from rfl, fa_mask, show (2 : Nat) ^ 8 = 256 from rfl, show (2 : Nat) ^ 16 = 65536 from rfl, show (2 : Nat) ^ 6 = 64 from rfl, pfin q0 q1 q2 q3]
  rw [t4]
  congr 1
  have f1 : ∀ (b h n : Nat), b < 256 → fb_ct (fun i => (b + 256 * h).testBit i) (8 + n) = fb_ct (fun x => b.testBit x) 8 + fb_ct (fun i => h.testBit i) n := by
    intro b h n hb
    rw [fb_ct_split]
    congr 1
    · exact fb_ct_cong fun k hk => by rw [tb256 hb, if_pos hk]
    · exact fb_ct_cong fun k hk => by rw [tb256 hb, if_neg (by omega), show 8 + k - 8 = k by omega]
  rw [show 32 = 8 + (8 + (8 + 8)) from rfl, f1 _ _ _ h0, f1 _ _ _ h1, f1 _ _ _ h2, r0, r1, r2, r3]
  omega
