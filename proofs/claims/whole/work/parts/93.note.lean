/-! SEARCH: the ways of one trick: what is noted of an order -/
def brd (S : Nat → Nat) (x l : Nat) : Nat := if S 5 = 1 ∨ x / 4 = l / 4 then 0 else if S 5 = 2 ∧ S 4 < 4 ∧ x / 4 ≠ S 4 then 2 ^ (l / 4) ||| 2 ^ S 4 else 2 ^ (l / 4)
def kBa (S : Nat → Nat) (L : Nat) (f : Nat → Nat) : Nat → Nat
  | 0 => 0
  | j + 1 => kBa S L f j ||| brd S (f j) (f 0) * 2 ^ (4 * ((L + j) % S 1))
def kHo (S : Nat → Nat) (L : Nat) (f : Nat → Nat) : Nat → Nat
  | 0 => 0
  | j + 1 => kHo S L f j ||| 2 ^ (4 * ((L + j) % S 1) + f j / 4)
def kBr (S : Nat → Nat) (L : Nat) (f : Nat → Nat) : Nat → Nat
  | 0 => 0
  | j + 1 => kBr S L f j ||| bm (ahB S ((L + j) % S 1) (f j)) (S 10)
def kWh (S : Nat → Nat) (L : Nat) (f : Nat → Nat) : Nat → Nat
  | 0 => 0
  | j + 1 => kWh S L f j ||| 2 ^ (4 * f j + (L + j) % S 1)
def kLd (S : Nat → Nat) (c : Nat) (f : Nat → Nat) : Nat := (c + S 1 - wp (S 4) f (S 1 - 1)) % S 1
def pk16 (f : Nat → Nat) : Nat → Nat
  | 0 => 0
  | j + 1 => pk16 f j * 16 + f j
theorem pk16_lt {f : Nat → Nat} : ∀ {j : Nat}, (∀ i, i < j → f i < 16) → pk16 f j < 16 ^ j
  | 0, _ => by show 0 < 1; omega
  | j + 1, h => by
    have h1 := pk16_lt (f := f) (j := j) fun i hi => h i (by omega)
    have h2 := h j (by omega)
    rw [pk16, Nat.pow_succ]
    omega
theorem pk16_d {f : Nat → Nat} : ∀ {d j : Nat}, (∀ i, i < j + 1 + d → f i < 16) → pk16 f (j + 1 + d) / 16 ^ d % 16 = f j
  | 0, j, h => by
    have := h j (by omega)
    rw [Nat.pow_zero, Nat.div_one, Nat.add_zero, pk16]
    omega
  | d + 1, j, h => by
    have := h (j + 1 + d) (by omega)
    rw [← Nat.add_assoc, pk16, Nat.pow_succ, Nat.mul_comm (16 ^ d) 16, ← Nat.div_div_eq_div_mul, show (pk16 f (j + 1 + d) * 16 + f (j + 1 + d)) / 16 = pk16 f (j + 1 + d) by omega]
    exact pk16_d fun i hi => h i (by omega)
theorem p16 (d : Nat) : 2 ^ (4 * d) = 16 ^ d := by rw [Nat.pow_mul]
theorem pk_at {f : Nat → Nat} {n j : Nat} (hn4 : n ≤ 4) (hj : j < n) (hf : ∀ i, i < n → f i < 16) : (nI (pk16 f n) >>> (((4 : Int32) * nI (n - 1 - j)) &&& 31)) &&& 15 = nI (f j) := by
  have h1 := pk16_lt hf
  have h2 : 16 ^ n ≤ 16 ^ 4 := Nat.pow_le_pow_right (by decide) hn4
  have h3 : pk16 f n < 65536 := Nat.lt_of_lt_of_le h1 h2
  have h4 : pk16 f n / 2 ^ (4 * (n - 1 - j)) ≤ pk16 f n := Nat.div_le_self _ _
  rw [m4k, shr_n (by omega) (by omega), and_15 (by omega), p16]
  have := pk16_d (f := f) (d := n - 1 - j) (j := j) fun i hi => hf i (by omega)
  rw [show j + 1 + (n - 1 - j) = n by omega] at this
  rw [this]
theorem brd_lt {S : Nat → Nat} {x l : Nat} (hl : l < 16) : brd S x l < 16 := by
  unfold brd
  have h1 : 2 ^ (l / 4) < 2 ^ 4 := pw_lt (by omega)
  split
  · omega
  · split
    · rename_i h
      exact or_lt (k := 4) h1 (pw_lt h.2.1)
    · exact h1
theorem barredBy_sp {S : Nat → Nat} {x l nf : Nat} {m : rn_Mem} (hx : x < 16) (hl : l < 16) (h5b : S 5 ≤ 2) (h5 : m.1 52 5 = nI (S 5)) (h4 : m.1 52 4 = cT (S 4)) : wa_barredBy nf 52 (nI x) (nI l) m = some (nI (brd S x l), m) := by
  unfold wa_barredBy
  simp only [Option.bind_some]
  rw [shr_2 (by omega), shr_2 (by omega), h5, h4]
  by_cases z1 : S 5 = 1
  · have e : brd S x l = 0 := by unfold brd; rw [if_pos (Or.inl z1)]
    rw [if_pos (by rw [z1]; rfl), e]; rfl
  rw [if_neg (by rw [k1, nI_eq (by omega) (by omega)]; exact z1)]
  by_cases z2 : x / 4 = l / 4
  · have e : brd S x l = 0 := by unfold brd; rw [if_pos (Or.inr z2)]
    rw [if_pos (by rw [z2]), e]; rfl
  have z12 : ¬ (S 5 = 1 ∨ x / 4 = l / 4) := fun z => z.elim z1 z2
  rw [if_neg (by rw [nI_eq (by omega) (by omega)]; exact z2), shl_1 (by omega)]
  by_cases z3 : S 5 = 2
  · rw [if_pos (by rw [z3]; rfl)]
    by_cases z4 : 4 ≤ S 4
    · have e : brd S x l = 2 ^ (l / 4) := by unfold brd; rw [if_neg z12, if_neg (fun z => by omega)]
      rw [if_pos (cT_lt.mpr z4), e]
    · rw [if_neg (mt cT_lt.mp z4)]
      by_cases z5 : x / 4 = S 4
      · have e : brd S x l = 2 ^ (l / 4) := by unfold brd; rw [if_neg z12, if_neg (fun z => z.2.2 z5)]
        rw [if_pos ((eq_nc (by omega)).mpr z5), e]
      · have e : brd S x l = 2 ^ (l / 4) ||| 2 ^ S 4 := by unfold brd; rw [if_neg z12, if_pos ⟨z3, by omega, z5⟩]
        have ec : cT (S 4) = nI (S 4) := by unfold cT; rw [if_pos (by omega)]
        rw [if_neg (mt (eq_nc (by omega)).mp z5), e, ec, shl_1 (by omega), fa_or]
  · have e : brd S x l = 2 ^ (l / 4) := by unfold brd; rw [if_neg z12, if_neg (fun z => z3 z.1)]
    rw [if_neg (by rw [k2, nI_eq (by omega) (by omega)]; exact z3), e]
theorem note_l21_sp {S : Nat → Nat} {f : Nat → Nat} {q0 q2 : Nat} {a4 a5 : Int32} {m : rn_Mem} (wg : WG S) (hf : ∀ i, i < S 1 → f i < 16) (h1 : m.1 52 1 = nI (S 1)) (h4 : m.1 52 4 = cT (S 4)) : ∀ (s j nf : Nat), j + s = S 1 → s < nf → wa_note_l21 q0 52 q2 (nI (pk16 f (S 1))) a4 a5 nf (jo (S 1) (S 4) 0 f j) (nI j) m = some (jo (S 1) (S 4) 0 f (S 1), m) := by
  obtain ⟨w1, w2, w3, w4, w5, _⟩ := wg
  intro s
  induction s with
  | zero =>
    intro j nf e hnf
    obtain ⟨nf, rfl⟩ : ∃ e, nf = e + 1 := ⟨nf - 1, by omega⟩
    obtain rfl : j = S 1 := by omega
    rw [wa_note_l21, h1, if_neg (by rw [nI_ltI (by omega) (by omega)]; omega)]
  | succ s ih =>
    intro j nf e hnf
    obtain ⟨nf, rfl⟩ : ∃ e, nf = e + 1 := ⟨nf - 1, by omega⟩
    have hj := ga_join_sp (n := nf) (g := 52) (j := j) (k := S 1) (tr := S 4) (L := 0) (f := f) (m := m) (by omega) w2 (fun i hi => hf i (by omega)) h4
    rw [Nat.zero_add, Nat.mod_eq_of_lt (show j < S 1 by omega)] at hj
    rw [wa_note_l21, h1, if_pos (by rw [nI_ltI (by omega) (by omega)]; omega), k1, pk_sub (by omega), pk_sub (by omega), pk_at w2 (by omega) hf, hj]
    simp only [Option.bind_some]
    rw [← k1, nI_1]
    exact ih (j + 1) nf (by omega) (by omega)
theorem kBa_lt {S : Nat → Nat} {L : Nat} {f : Nat → Nat} (hn : 0 < S 1) (hn4 : S 1 ≤ 4) : ∀ {j : Nat}, (∀ i, i < j → f i < 16) → (0 < j → f 0 < 16) → kBa S L f j < 65536 ∧ kHo S L f j < 65536
  | 0, _, _ => ⟨by rw [kBa]; omega, by rw [kHo]; omega⟩
  | j + 1, h, h0 => by
    obtain ⟨i1, i2⟩ := kBa_lt (S := S) (L := L) (f := f) hn hn4 (j := j) (fun i hi => h i (by omega)) (fun _ => h0 (by omega))
    have hm := Nat.mod_lt (L + j) hn
    have hfj := h j (by omega)
    have hb := brd_lt (S := S) (x := f j) (h0 (by omega))
    rw [kBa, kHo]
    refine ⟨or_lt (k := 16) i1 ?_, or_lt (k := 16) i2 (pw_lt (by omega))⟩
    have h2 : 2 ^ (4 * ((L + j) % S 1)) ≤ 2 ^ 12 := Nat.pow_le_pow_right (by decide) (by omega)
    have h3 : brd S (f j) (f 0) * 2 ^ (4 * ((L + j) % S 1)) ≤ 15 * 2 ^ 12 := Nat.mul_le_mul (by omega) h2
    omega
theorem kBr_lt {S : Nat → Nat} {L : Nat} {f : Nat → Nat} (h6 : S 10 ≤ 6) : ∀ {j : Nat}, kBr S L f j < 64
  | 0 => by rw [kBr]; omega
  | j + 1 => by
    rw [kBr]
    exact or_lt (k := 6) (kBr_lt h6) (Nat.lt_of_lt_of_le (bm_lt _ _) (Nat.pow_le_pow_right (by decide) h6))
theorem note_l117_sp {S : Nat → Nat} {f : Nat → Nat} {q0 L : Nat} {a4 a7 : Int32} {m : rn_Mem} (wg : WG S) (wc : WC S) (hf : ∀ i, i < S 1 → f i < 16) (hG : cGa S (m.1 52)) (h0 : S 0 = 1) (hC : CLm S 57 m) : ∀ (s j nf : Nat), j + s = S 1 → s + 20 < nf → wa_note_l117 q0 52 57 (nI (pk16 f (S 1))) a4 (nI (f 0)) a7 nf (nI ((L + j) % S 1)) (nI (kBa S L f j)) (nI (kHo S L f j)) (nI (kBr S L f j)) (lN (kWh S L f j)) (nI (S 1 - j) + (-1)) m = some (nI (kBa S L f (S 1)), nI (kHo S L f (S 1)), nI (kBr S L f (S 1)), lN (kWh S L f (S 1)), m) := by
  obtain ⟨g1, g2, g3, g4, g5, g6, g7, g8⟩ := hG.2 h0
  obtain ⟨w1, w2, w3, w4, w5, w6, w7, w8, w9⟩ := wg
  have wg : WG S := ⟨w1, w2, w3, w4, w5, w6, w7, w8, w9⟩
  intro s
  induction s with
  | zero =>
    intro j nf e hnf
    obtain ⟨nf, rfl⟩ : ∃ e, nf = e + 1 := ⟨nf - 1, by omega⟩
    obtain rfl : j = S 1 := by omega
    rw [wa_note_l117, if_pos (by rw [Nat.sub_self]; decide)]
  | succ s ih =>
    intro j nf e hnf
    obtain ⟨nf, rfl⟩ : ∃ e, nf = e + 1 := ⟨nf - 1, by omega⟩
    have hm := Nat.mod_lt (L + j) (show S 1 > 0 by omega)
    have hfj := hf j (by omega)
    have hf0 := hf 0 (by omega)
    have hb := brd_lt (S := S) (x := f j) hf0
    have e1 : nI (S 1 - j) + (-1) = nI (S 1 - 1 - j) := by
      rw [show S 1 - j = (S 1 - 1 - j) + 1 by omega]; exact pk_m1 _
    have h2 : 2 ^ (4 * ((L + j) % S 1)) ≤ 2 ^ 12 := Nat.pow_le_pow_right (by decide) (by omega)
    have h3 : brd S (f j) (f 0) * 2 ^ (4 * ((L + j) % S 1)) ≤ 15 * 2 ^ 12 := Nat.mul_le_mul (by omega) h2
    rw [wa_note_l117, e1, if_neg (by rw [k0, nI_ltI (by omega) (by omega)]; omega), pk_at w2 (by omega) hf]
    simp only [Option.bind_some]
    rw [barredBy_sp hfj hf0 w8 g5 g4]
    simp only [Option.bind_some]
    rw [againstHolding_sp wg wc hC (by omega) (by omega) (by omega)]
    simp only [Option.bind_some]
    rw [ga_next_sp (x := L + j) (k := S 1) (by omega) w2 g1]
    simp only [Option.bind_some, m4k, nI_add, shr_2 (show f j < 2 ^ 31 by omega), shl_n (show 4 * ((L + j) % S 1) < 32 by omega) (show brd S (f j) (f 0) * 2 ^ (4 * ((L + j) % S 1)) < 2 ^ 32 by omega), shl_1 (show 4 * ((L + j) % S 1) + f j / 4 < 32 by omega), fa_or]
    have hl : (1 : Int64) <<< ((nI (4 * f j + (L + j) % S 1)).toInt64 &&& 63) = lN (2 ^ (4 * f j + (L + j) % S 1)) := by
      have := wb_shl 1 (k := 4 * f j + (L + j) % S 1) (by omega)
      rw [Nat.one_mul] at this
      exact this
    rw [hl, fb_orL]
    have := ih (j + 1) nf (by omega) (by omega)
    rw [show S 1 - (j + 1) = S 1 - 1 - j by omega] at this
    exact this
/-- the ways of a trick's cards, when Q orders were noted -/
def WRl (S : Nat → Nat) (ask c p : Nat) (F : Nat → Nat → Nat) (Q sz : Nat) (cl : Nat → Nat) (A : Nat → Nat → Nat) (m : rn_Mem) : Prop := m.1 p 2 = nI sz ∧ sz ≤ Q ∧ (∀ q, q < Q → cl q < sz ∧ A 1 (cl q) = kLd S c (F q) ∧ A 2 (cl q) = kBa S (kLd S c (F q)) (F q) (S 1) ∧ A 3 (cl q) = kHo S (kLd S c (F q)) (F q) (S 1) &&& ask ∧ A 4 (cl q) = kBr S (kLd S c (F q)) (F q) (S 1)) ∧ (∀ a, a < sz → (∃ q, q < Q ∧ cl q = a ∧ A 7 a = pk16 (F q) (S 1)) ∧ A 5 a = fb_ct (fun q => decide (cl q = a)) Q ∧ (∀ x, (A 6 a).testBit x = true ↔ ∃ q, q < Q ∧ cl q = a ∧ (kWh S (kLd S c (F q)) (F q) (S 1)).testBit x = true) ∧ ∀ q, q < Q → cl q = a → A 7 a ≤ pk16 (F q) (S 1)) ∧ ∀ a, a < sz → m.1 (p + 1) a = nI (A 1 a) ∧ m.1 (p + 2) a = nI (A 2 a) ∧ m.1 (p + 3) a = nI (A 3 a) ∧ m.1 (p + 4) a = nI (A 4 a) ∧ m.1 (p + 5) a = nI (A 5 a) ∧ m.2 (p + 6) a = lN (A 6 a) ∧ m.1 (p + 7) a = nI (A 7 a)
