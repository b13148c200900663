/-! THE REFERENCE'S SEARCH: breaches of one trick, counted against the class's bits -/
theorem bo_x {a b : Bool} : a = b ↔ (a = true ↔ b = true) := by cases a <;> cases b <;> decide
theorem ml_bit (a k j : Nat) : (a * 2 ^ k).testBit j = (decide (k ≤ j) && a.testBit (j - k)) := by
  by_cases y : k ≤ j
  · rw [decide_eq_true y, Bool.true_and]
    have h : ((a * 2 ^ k) / 2 ^ k).testBit (j - k) = (a * 2 ^ k).testBit (k + (j - k)) := by rw [Nat.testBit_div_two_pow]; congr 1; omega
    rw [Nat.mul_div_cancel _ (Nat.two_pow_pos k)] at h
    rw [h]
    congr 1
    omega
  · rw [decide_eq_false y, Bool.false_and]
    have h := Nat.testBit_mod_two_pow (a * 2 ^ k) k j
    rw [Nat.mul_mod_left, Nat.zero_testBit, decide_eq_true (by omega), Bool.true_and] at h
    exact h.symm
def nb4 (U c : Nat) : Nat := bm (fun s => U.testBit (4 * c + s)) 4
theorem nb4_bit {U c s : Nat} (hs : s < 4) : (nb4 U c).testBit s = U.testBit (4 * c + s) := by unfold nb4; rw [bm_bit, decide_eq_true hs, Bool.true_and]
theorem nb4_lt {U c : Nat} : nb4 U c < 16 := bm_lt _ 4
theorem nb4_0 {c : Nat} : nb4 0 c = 0 := by
  apply Nat.eq_of_testBit_eq
  intro i
  rw [Nat.zero_testBit]
  by_cases y : i < 4
  · rw [nb4_bit y, Nat.zero_testBit]
  · exact bit_high (k := 4) nb4_lt (by omega)
theorem and_ne {a b : Nat} (ha : a < 16) : a &&& b ≠ 0 ↔ ∃ s, s < 4 ∧ a.testBit s = true ∧ b.testBit s = true := by
  constructor
  · intro h
    refine Classical.byContradiction fun n => h ?_
    apply Nat.eq_of_testBit_eq
    intro i
    rw [Nat.testBit_and, Nat.zero_testBit]
    by_cases y : i < 4
    · cases e1 : a.testBit i with
      | false => rfl
      | true =>
        cases e2 : b.testBit i with
        | false => rfl
        | true => exact absurd ⟨i, y, e1, e2⟩ n
    · rw [bit_high (k := 4) ha (by omega), Bool.false_and]
  · rintro ⟨s, hs, h1, h2⟩ e
    have h := Nat.zero_testBit s
    rw [← e, Nat.testBit_and, h1, h2] at h
    exact absurd h (by decide)
/-- a breach of the j-th card, the suits U still in hand -/
def brc (S : Nat → Nat) (U L : Nat) (f : Nat → Nat) (j : Nat) : Bool := decide (nb4 U ((L + j) % S 1) &&& brd S (f j) (f 0) ≠ 0)
theorem wr_step {S : Nat → Nat} {U L j : Nat} {f : Nat → Nat} (w1 : 2 ≤ S 1) (w2 : S 1 ≤ 4) (hU : U < 65536) (hf : f 0 < 16) : cin (U &&& kBa S L f (j + 1)) = if brc S U L f j = true then 2 ^ (4 * ((L + j) % S 1)) ||| cin (U &&& kBa S L f j) else cin (U &&& kBa S L f j) := by
  have hc : (L + j) % S 1 < S 1 := Nat.mod_lt _ (by omega)
  have hlt : ∀ x, U &&& x < 65536 := fun x => Nat.lt_of_le_of_lt Nat.and_le_left hU
  have hb := brd_lt (S := S) (x := f j) hf
  have key : ∀ y, (cin (U &&& kBa S L f (j + 1))).testBit y = true ↔ (cin (U &&& kBa S L f j)).testBit y = true ∨ (y = 4 * ((L + j) % S 1) ∧ brc S U L f j = true) := by
    intro y
    rw [cin_bit (hlt _), cin_bit (hlt _)]
    constructor
    · rintro ⟨c, s, h1, h2, h3, h4⟩
      rw [Nat.testBit_and, kBa, Nat.testBit_or, ml_bit, Bool.and_eq_true, Bool.or_eq_true, Bool.and_eq_true, decide_eq_true_iff] at h4
      obtain ⟨h5, h6 | ⟨h6, h7⟩⟩ := h4
      · exact Or.inl ⟨c, s, h1, h2, h3, by rw [Nat.testBit_and, h5, h6]; rfl⟩
      · have hlt4 : 4 * c + s - 4 * ((L + j) % S 1) < 4 := by
          refine Classical.byContradiction fun n => ?_
          rw [bit_high (k := 4) hb (by omega)] at h7
          exact absurd h7 (by decide)
        obtain rfl : c = (L + j) % S 1 := by omega
        refine Or.inr ⟨h3, decide_eq_true ((and_ne nb4_lt).mpr ⟨s, h2, by rw [nb4_bit h2]; exact h5, ?_⟩)⟩
        rw [show 4 * ((L + j) % S 1) + s - 4 * ((L + j) % S 1) = s by omega] at h7
        exact h7
    · rintro (⟨c, s, h1, h2, h3, h4⟩ | ⟨h1, h2⟩)
      · rw [Nat.testBit_and, Bool.and_eq_true] at h4
        exact ⟨c, s, h1, h2, h3, by rw [Nat.testBit_and, kBa, Nat.testBit_or, h4.1, h4.2]; rfl⟩
      · obtain ⟨s, hs, h3, h4⟩ := (and_ne nb4_lt).mp (of_decide_eq_true h2)
        rw [nb4_bit hs] at h3
        refine ⟨(L + j) % S 1, s, by omega, hs, h1, ?_⟩
        rw [Nat.testBit_and, kBa, Nat.testBit_or, ml_bit, h3, decide_eq_true (by omega), show 4 * ((L + j) % S 1) + s - 4 * ((L + j) % S 1) = s by omega, h4, Bool.true_and, Bool.true_and, Bool.or_true]
  apply Nat.eq_of_testBit_eq
  intro y
  rw [bo_x, key y]
  by_cases z : brc S U L f j = true
  · rw [if_pos z, Nat.testBit_or, Nat.testBit_two_pow, Bool.or_eq_true, decide_eq_true_iff]
    exact ⟨fun h => h.elim Or.inr fun h => Or.inl h.1.symm, fun h => h.elim (fun h => Or.inr ⟨h.symm, z⟩) Or.inl⟩
  · rw [if_neg z]
    exact ⟨fun h => h.elim id fun h => absurd h.2 z, Or.inl⟩
theorem wr_bit {S : Nat → Nat} {U L : Nat} {f : Nat → Nat} (w1 : 2 ≤ S 1) (w2 : S 1 ≤ 4) (hU : U < 65536) (hf : f 0 < 16) {y : Nat} : ∀ {j : Nat}, (cin (U &&& kBa S L f j)).testBit y = true ↔ ∃ i, i < j ∧ y = 4 * ((L + i) % S 1) ∧ brc S U L f i = true
  | 0 => by
    rw [kBa, Nat.and_zero, cin_bit (by omega)]
    constructor
    · rintro ⟨c, s, _, _, _, h⟩
      rw [Nat.zero_testBit] at h
      exact absurd h (by decide)
    · rintro ⟨i, h, _⟩
      exact absurd h (Nat.not_lt_zero i)
  | j + 1 => by
    rw [wr_step w1 w2 hU hf]
    by_cases z : brc S U L f j = true
    · rw [if_pos z, Nat.testBit_or, Nat.testBit_two_pow, Bool.or_eq_true, decide_eq_true_iff, wr_bit w1 w2 hU hf]
      constructor
      · rintro (h | ⟨i, h1, h2, h3⟩)
        · exact ⟨j, by omega, h.symm, z⟩
        · exact ⟨i, by omega, h2, h3⟩
      · rintro ⟨i, h1, h2, h3⟩
        by_cases e : i = j
        · rw [e] at h2; exact Or.inl h2.symm
        · exact Or.inr ⟨i, by omega, h2, h3⟩
    · rw [if_neg z, wr_bit w1 w2 hU hf]
      constructor
      · rintro ⟨i, h1, h2, h3⟩
        exact ⟨i, by omega, h2, h3⟩
      · rintro ⟨i, h1, h2, h3⟩
        by_cases e : i = j
        · rw [e] at h3; exact absurd h3 z
        · exact ⟨i, by omega, h2, h3⟩
theorem ch_ne {n L i j : Nat} (hn : 2 ≤ n) (hn4 : n ≤ 4) (hL : L < n) (hi : i < n) (hj : j < n) (h : (L + i) % n = (L + j) % n) : i = j := by
  rw [md_2 (by omega), md_2 (by omega)] at h
  split at h <;> split at h <;> omega
theorem ch_ex {n L c : Nat} (hL : L < n) (hc : c < n) : ∃ i, i < n ∧ (L + i) % n = c := by
  by_cases y : L ≤ c
  · exact ⟨c - L, by omega, by rw [show L + (c - L) = c by omega, Nat.mod_eq_of_lt hc]⟩
  · exact ⟨c + n - L, by omega, by rw [show L + (c + n - L) = c + n by omega, Nat.add_mod_right, Nat.mod_eq_of_lt hc]⟩
theorem wr_cnt {S : Nat → Nat} {U L : Nat} {f : Nat → Nat} (w1 : 2 ≤ S 1) (w2 : S 1 ≤ 4) (hU : U < 65536) (hf : f 0 < 16) (hL : L < S 1) : ∀ {j : Nat}, j ≤ S 1 → cnt (cin (U &&& kBa S L f j)) = fb_ct (brc S U L f) j
  | 0, _ => by rw [kBa, Nat.and_zero]; show cnt (cin 0) = 0; decide
  | j + 1, hj => by
    have hc : (L + j) % S 1 < S 1 := Nat.mod_lt _ (by omega)
    rw [wr_step w1 w2 hU hf, fb_ct_succ, ← wr_cnt w1 w2 hU hf hL (by omega)]
    by_cases z : brc S U L f j = true
    · rw [if_pos z, if_pos z, cnt_or (by omega) ?_]
      cases e : (cin (U &&& kBa S L f j)).testBit (4 * ((L + j) % S 1)) with
      | false => rfl
      | true =>
        obtain ⟨i, h1, h2, _⟩ := (wr_bit w1 w2 hU hf).mp e
        exact absurd (ch_ne w1 w2 hL (show j < S 1 by omega) (show i < S 1 by omega) (by omega)) (by omega)
    · rw [if_neg z, if_neg z, Nat.add_zero]
theorem kHo_bit {S : Nat → Nat} {L x : Nat} {f : Nat → Nat} : ∀ {j : Nat}, (kHo S L f j).testBit x = true ↔ ∃ i, i < j ∧ 4 * ((L + i) % S 1) + f i / 4 = x
  | 0 => by
    rw [kHo, Nat.zero_testBit]
    exact ⟨fun h => absurd h (by decide), fun ⟨i, h, _⟩ => absurd h (Nat.not_lt_zero i)⟩
  | j + 1 => by
    rw [kHo, Nat.testBit_or, Bool.or_eq_true, kHo_bit, Nat.testBit_two_pow, decide_eq_true_iff]
    constructor
    · rintro (⟨i, h1, h2⟩ | h)
      · exact ⟨i, by omega, h2⟩
      · exact ⟨j, by omega, h⟩
    · rintro ⟨i, h1, h2⟩
      by_cases e : i = j
      · rw [e] at h2; exact Or.inr h2
      · exact Or.inl ⟨i, by omega, h2⟩
theorem nb4_Ho {S : Nat → Nat} {U L i : Nat} {f : Nat → Nat} (w1 : 2 ≤ S 1) (w2 : S 1 ≤ 4) (hL : L < S 1) (hi : i < S 1) (hf : ∀ j, j < S 1 → f j < 16) : nb4 (U ||| kHo S L f (S 1)) ((L + i) % S 1) = nb4 U ((L + i) % S 1) ||| 2 ^ (f i / 4) := by
  apply Nat.eq_of_testBit_eq
  intro s
  have h1 := hf i hi
  by_cases y : s < 4
  · rw [nb4_bit y, Nat.testBit_or, Nat.testBit_or, nb4_bit y, Nat.testBit_two_pow]
    congr 1
    rw [bo_x, kHo_bit, decide_eq_true_iff]
    constructor
    · rintro ⟨j, h2, h3⟩
      have := hf j h2
      obtain rfl : j = i := ch_ne w1 w2 hL h2 hi (by omega)
      omega
    · intro h
      exact ⟨i, hi, by omega⟩
  · rw [bit_high (k := 4) nb4_lt (by omega)]
    symm
    exact bit_high (k := 4) (or_lt (k := 4) nb4_lt (pw_lt (by omega))) (by omega)
theorem brc_iff {S : Nat → Nat} {U L j : Nat} {f : Nat → Nat} (hf : f 0 < 16) : brc S U L f j = true ↔ ¬ S 5 = 1 ∧ f j / 4 ≠ f 0 / 4 ∧ ((nb4 U ((L + j) % S 1)).testBit (f 0 / 4) = true ∨ (S 5 = 2 ∧ S 4 < 4 ∧ f j / 4 ≠ S 4 ∧ (nb4 U ((L + j) % S 1)).testBit (S 4) = true)) := by
  unfold brc
  rw [decide_eq_true_iff, and_ne nb4_lt]
  unfold brd
  by_cases y1 : S 5 = 1 ∨ f j / 4 = f 0 / 4
  · rw [if_pos y1]
    constructor
    · rintro ⟨s, _, _, h⟩
      rw [Nat.zero_testBit] at h
      exact absurd h (by decide)
    · rintro ⟨h1, h2, _⟩
      exact y1.elim (fun h => absurd h h1) (fun h => absurd h h2)
  rw [if_neg y1]
  by_cases y2 : S 5 = 2 ∧ S 4 < 4 ∧ f j / 4 ≠ S 4
  · rw [if_pos y2]
    constructor
    · rintro ⟨s, hs, h1, h2⟩
      refine ⟨fun h => y1 (Or.inl h), fun h => y1 (Or.inr h), ?_⟩
      rw [Nat.testBit_or, Bool.or_eq_true, Nat.testBit_two_pow, Nat.testBit_two_pow, decide_eq_true_iff, decide_eq_true_iff] at h2
      rcases h2 with h2 | h2
      · rw [h2]; exact Or.inl h1
      · rw [h2] at y2 ⊢; exact Or.inr ⟨y2.1, y2.2.1, y2.2.2, h1⟩
    · rintro ⟨_, _, h | ⟨_, _, _, h⟩⟩
      · exact ⟨f 0 / 4, by omega, h, by rw [Nat.testBit_or, Nat.testBit_two_pow, decide_eq_true rfl, Bool.true_or]⟩
      · exact ⟨S 4, y2.2.1, h, by rw [Nat.testBit_or, Nat.testBit_two_pow, Nat.testBit_two_pow, decide_eq_true (p := S 4 = S 4) rfl, Bool.or_true]⟩
  · rw [if_neg y2]
    constructor
    · rintro ⟨s, hs, h1, h2⟩
      rw [Nat.testBit_two_pow, decide_eq_true_iff] at h2
      refine ⟨fun h => y1 (Or.inl h), fun h => y1 (Or.inr h), Or.inl ?_⟩
      rw [h2]; exact h1
    · rintro ⟨_, _, h | ⟨h1, h2, h3, _⟩⟩
      · exact ⟨f 0 / 4, by omega, h, by rw [Nat.testBit_two_pow, decide_eq_true rfl]⟩
      · exact absurd ⟨h1, h2, h3⟩ y2
