/-! THE LAW'S LOOP, out of one step for each call: a relation Rl of the memory that every call keeps -/
def pN : Nat := 1000000
theorem pl_cmp (x : Int64) : lg_cmp x x = 0 := by
  unfold lg_cmp
  have h : ¬ x < x := Int64.lt_irrefl
  simp [h]
def PS_type (Rl : rn_Mem → Prop) : Prop := ∀ n, pN ≤ n → ∀ (w : Int64) (k : Int32) (m : rn_Mem), Rl m → ∃ (r : Int32) (m1 m2 : rn_Mem), lt_type n w k m = some (r, m1) ∧ mo_type n w k m1 = some (r, m2) ∧ Rl m2
def PS_game (Rl : rn_Mem → Prop) : Prop := ∀ n, pN ≤ n → ∀ (m : rn_Mem), Rl m → ∃ (r : Int32) (m1 m2 : rn_Mem), lt_game n  m = some (r, m1) ∧ mo_game n  m1 = some (r, m2) ∧ Rl m2
def PS_table (Rl : rn_Mem → Prop) : Prop := ∀ n, pN ≤ n → ∀ (m : rn_Mem), Rl m → ∃ (r : Int32) (m1 m2 : rn_Mem), lt_table n  m = some (r, m1) ∧ mo_table n  m1 = some (r, m2) ∧ Rl m2
def PS_told (Rl : rn_Mem → Prop) : Prop := ∀ n, pN ≤ n → ∀ (a0 : Int32) (m : rn_Mem), Rl m → ∃ (r : Int32) (m1 m2 : rn_Mem), lt_told n a0 m = some (r, m1) ∧ mo_told n a0 m1 = some (r, m2) ∧ Rl m2
def PS_set (Rl : rn_Mem → Prop) : Prop := ∀ n, pN ≤ n → ∀ (a0 a1 : Int32) (m : rn_Mem), Rl m → ∃ (r : Int32) (m1 m2 : rn_Mem), lt_set n a0 a1 m = some (r, m1) ∧ mo_set n a0 a1 m1 = some (r, m2) ∧ Rl m2
def PS_heap (Rl : rn_Mem → Prop) : Prop := ∀ n, pN ≤ n → ∀ (a0 a1 : Int32) (m : rn_Mem), Rl m → ∃ (r : Int32) (m1 m2 : rn_Mem), lt_heap n a0 a1 m = some (r, m1) ∧ mo_heap n a0 a1 m1 = some (r, m2) ∧ Rl m2
def PS_wins (Rl : rn_Mem → Prop) : Prop := ∀ n, pN ≤ n → ∀ (a0 a1 : Int32) (m : rn_Mem), Rl m → ∃ (r : Int32) (m1 m2 : rn_Mem), lt_wins n a0 a1 m = some (r, m1) ∧ mo_wins n a0 a1 m1 = some (r, m2) ∧ Rl m2
def PS_clue (Rl : rn_Mem → Prop) : Prop := ∀ n, pN ≤ n → ∀ (a0 a1 a2 a3 : Int32) (m : rn_Mem), Rl m → ∃ (r : Int32) (m1 m2 : rn_Mem), lt_clue n a0 a1 a2 a3 m = some (r, m1) ∧ mo_clue n a0 a1 a2 a3 m1 = some (r, m2) ∧ Rl m2
def PS_forget (Rl : rn_Mem → Prop) : Prop := ∀ n, pN ≤ n → ∀ (m : rn_Mem), Rl m → ∃ (r : Int32) (m1 m2 : rn_Mem), lt_forget n  m = some (r, m1) ∧ mo_forget n  m1 = some (r, m2) ∧ Rl m2
def PS_plays (Rl : rn_Mem → Prop) : Prop := ∀ n, pN ≤ n → ∀ (m : rn_Mem), Rl m → ∃ (r : Int64) (m1 m2 : rn_Mem), lt_plays n  m = some (r, m1) ∧ mo_plays n  m1 = some (r, m2) ∧ Rl m2
def PS_may (Rl : rn_Mem → Prop) : Prop := ∀ n, pN ≤ n → ∀ (a0 : Int32) (m : rn_Mem), Rl m → ∃ (r : Int32) (m1 m2 : rn_Mem), lt_may n a0 m = some (r, m1) ∧ mo_may n a0 m1 = some (r, m2) ∧ Rl m2
def PS_sure (Rl : rn_Mem → Prop) : Prop := ∀ n, pN ≤ n → ∀ (a0 : Int32) (m : rn_Mem), Rl m → ∃ (r : Int32) (m1 m2 : rn_Mem), lt_sure n a0 m = some (r, m1) ∧ mo_sure n a0 m1 = some (r, m2) ∧ Rl m2
def PS_under (Rl : rn_Mem → Prop) : Prop := ∀ n, pN ≤ n → ∀ (a0 a1 : Int32) (m : rn_Mem), Rl m → ∃ (r : Int32) (m1 m2 : rn_Mem), lt_under n a0 a1 m = some (r, m1) ∧ mo_under n a0 a1 m1 = some (r, m2) ∧ Rl m2
def PS_trick (Rl : rn_Mem → Prop) : Prop := ∀ n, pN ≤ n → ∀ (a0 a1 : Int32) (m : rn_Mem), Rl m → ∃ (r : Int32) (m1 m2 : rn_Mem), lt_trick n a0 a1 m = some (r, m1) ∧ mo_trick n a0 a1 m1 = some (r, m2) ∧ Rl m2
def PS_first (Rl : rn_Mem → Prop) : Prop := ∀ n, pN ≤ n → ∀ (a0 : Int32) (m : rn_Mem), Rl m → ∃ (r : Int32) (m1 m2 : rn_Mem), lt_first n a0 m = some (r, m1) ∧ mo_first n a0 m1 = some (r, m2) ∧ Rl m2
def PS_fewest (Rl : rn_Mem → Prop) : Prop := ∀ n, pN ≤ n → ∀ (a0 : Int32) (m : rn_Mem), Rl m → ∃ (r : Int32) (m1 m2 : rn_Mem), lt_fewest n a0 m = some (r, m1) ∧ mo_fewest n a0 m1 = some (r, m2) ∧ Rl m2
def PS_drops (Rl : rn_Mem → Prop) : Prop := ∀ n, pN ≤ n → ∀ (m : rn_Mem), Rl m → ∃ (r : Int32) (m1 m2 : rn_Mem), lt_drops n  m = some (r, m1) ∧ mo_drops n  m1 = some (r, m2) ∧ Rl m2
def PS_turned (Rl : rn_Mem → Prop) : Prop := ∀ n, pN ≤ n → ∀ (m : rn_Mem), Rl m → ∃ (r : Int32) (m1 m2 : rn_Mem), lt_turned n  m = some (r, m1) ∧ mo_turned n  m1 = some (r, m2) ∧ Rl m2
def PS_others (Rl : rn_Mem → Prop) : Prop := ∀ n, pN ≤ n → ∀ (a0 : Int32) (m : rn_Mem), Rl m → ∃ (r : Int32) (m1 m2 : rn_Mem), lt_others n a0 m = some (r, m1) ∧ mo_others n a0 m1 = some (r, m2) ∧ Rl m2
def PS_row (Rl : rn_Mem → Prop) : Prop := ∀ n, pN ≤ n → ∀ (a0 a1 a2 a3 : Int32) (m : rn_Mem), Rl m → ∃ (r : Int32) (m1 m2 : rn_Mem), lt_row n a0 a1 a2 a3 m = some (r, m1) ∧ mo_row n a0 a1 a2 a3 m1 = some (r, m2) ∧ Rl m2
def PS_leaves (Rl : rn_Mem → Prop) : Prop := ∀ n, pN ≤ n → ∀ (m : rn_Mem), Rl m → ∃ (r : Int32) (m1 m2 : rn_Mem), lt_leaves n  m = some (r, m1) ∧ mo_leaves n  m1 = some (r, m2) ∧ Rl m2
def PS_who (Rl : rn_Mem → Prop) : Prop := ∀ n, pN ≤ n → ∀ (a0 a1 : Int32) (m : rn_Mem), Rl m → ∃ (r : Int32) (m1 m2 : rn_Mem), lt_who n a0 a1 m = some (r, m1) ∧ mo_who n a0 a1 m1 = some (r, m2) ∧ Rl m2
def PS_best (Rl : rn_Mem → Prop) : Prop := ∀ n, pN ≤ n → ∀ (a0 : Int32) (m : rn_Mem), Rl m → ∃ (r : Int32) (m1 m2 : rn_Mem), lt_best n a0 m = some (r, m1) ∧ mo_best n a0 m1 = some (r, m2) ∧ Rl m2
def PS_falls (Rl : rn_Mem → Prop) : Prop := ∀ n, pN ≤ n → ∀ (a0 : Int32) (m : rn_Mem), Rl m → ∃ (r : Int32) (m1 m2 : rn_Mem), lt_falls n a0 m = some (r, m1) ∧ mo_falls n a0 m1 = some (r, m2) ∧ Rl m2
def PS_knows (Rl : rn_Mem → Prop) : Prop := ∀ n, pN ≤ n → ∀ (a0 a1 : Int32) (m : rn_Mem), Rl m → ∃ (r : Int32) (m1 m2 : rn_Mem), lt_knows n a0 a1 m = some (r, m1) ∧ mo_knows n a0 a1 m1 = some (r, m2) ∧ Rl m2
def PS_count (Rl : rn_Mem → Prop) : Prop := ∀ n, pN ≤ n → ∀ (a0 : Int32) (m : rn_Mem), Rl m → ∃ (r : Int32) (m1 m2 : rn_Mem), lt_count n a0 m = some (r, m1) ∧ mo_count n a0 m1 = some (r, m2) ∧ Rl m2
def PS_image (Rl : rn_Mem → Prop) : Prop := ∀ n, pN ≤ n → ∀ (m : rn_Mem), Rl m → ∃ (r : Int32) (m1 m2 : rn_Mem), lt_image n  m = some (r, m1) ∧ mo_image n  m1 = some (r, m2) ∧ Rl m2
def PS_restore (Rl : rn_Mem → Prop) : Prop := ∀ n, pN ≤ n → ∀ (m : rn_Mem), Rl m → ∃ (r : Int32) (m1 m2 : rn_Mem), lt_restore n  m = some (r, m1) ∧ mo_restore n  m1 = some (r, m2) ∧ Rl m2
def PS_sheet (Rl : rn_Mem → Prop) : Prop := ∀ n, pN ≤ n → ∀ (a0 a1 a2 : Int32) (m : rn_Mem), Rl m → ∃ (r : Int32) (m1 m2 : rn_Mem), lt_sheet n a0 a1 a2 m = some (r, m1) ∧ mo_sheet n a0 a1 a2 m1 = some (r, m2) ∧ Rl m2
def PS_drop (Rl : rn_Mem → Prop) : Prop := ∀ n, pN ≤ n → ∀ (a0 : Int32) (m : rn_Mem), Rl m → ∃ (r : Int32) (m1 m2 : rn_Mem), lt_drop n a0 m = some (r, m1) ∧ mo_drop n a0 m1 = some (r, m2) ∧ Rl m2
def PS_item (Rl : rn_Mem → Prop) : Prop := ∀ n, pN ≤ n → ∀ (a0 a1 a2 a3 : Int32) (m : rn_Mem), Rl m → ∃ (r : Int32) (m1 m2 : rn_Mem), lt_item n a0 a1 a2 a3 m = some (r, m1) ∧ mo_item n a0 a1 a2 a3 m1 = some (r, m2) ∧ Rl m2
def PS_all (Rl : rn_Mem → Prop) : Prop := PS_type Rl ∧ PS_game Rl ∧ PS_table Rl ∧ PS_told Rl ∧ PS_set Rl ∧ PS_heap Rl ∧ PS_wins Rl ∧ PS_clue Rl ∧ PS_forget Rl ∧ PS_plays Rl ∧ PS_may Rl ∧ PS_sure Rl ∧ PS_under Rl ∧ PS_trick Rl ∧ PS_first Rl ∧ PS_fewest Rl ∧ PS_drops Rl ∧ PS_turned Rl ∧ PS_others Rl ∧ PS_row Rl ∧ PS_leaves Rl ∧ PS_who Rl ∧ PS_best Rl ∧ PS_falls Rl ∧ PS_knows Rl ∧ PS_count Rl ∧ PS_image Rl ∧ PS_restore Rl ∧ PS_sheet Rl ∧ PS_drop Rl ∧ PS_item Rl
theorem pl_i (k : Nat) (j : Nat) : nI k + nI j = nI (k + j) := nI_add k j
theorem pl_in {k L : Nat} (h : k < L) (hL : L ≤ 2560) : rn_in (nI k) L = true := by
  have h1 := vp_in_nI h (show L < 2 ^ 31 by omega)
  unfold vp_in at h1
  unfold rn_in
  exact decide_eq_true h1
theorem pl_lt {k L : Nat} (hL : L ≤ 2560) (hk : k ≤ 2560) : (Int32.ofNat L - 5 < nI k) ↔ L < k + 5 := by
  have e5 : (5 : Int32) = nI 5 := by decide
  rw [e5]
  show (nI L - nI 5 < nI k) ↔ _
  rw [Int32.lt_iff_toInt_lt, pk_sub_toInt (by omega) (by omega), nI_toInt (by omega)]
  omega
set_option maxHeartbeats 40000000 in
set_option maxRecDepth 100000 in
theorem pl_loop {Rl : rn_Mem → Prop} (H : PS_all Rl) (xs : List Int32) (hx : xs.length ≤ 2560) : ∀ (j k : Nat) (n : Nat) (m : rn_Mem), xs.length - 5 * k ≤ j → 5 * k ≤ 2560 → pN + (600 - k) ≤ n → Rl m → ∃ mO, lw_law_l18 xs n (nI (5 * k)) m = some (.inr mO) := by
  obtain ⟨H0, H1, H2, H3, H4, H5, H6, H7, H8, H9, H10, H11, H12, H13, H14, H15, H16, H17, H18, H19, H20, H21, H22, H23, H24, H25, H26, H27, H28, H29, H30⟩ := H
  intro j
  induction j with
  | zero =>
    intro k n m hj hk hn hR
    obtain ⟨n, rfl⟩ : ∃ e, n = e + 1 := ⟨n - 1, by unfold pN at hn; omega⟩
    unfold lw_law_l18
    rw [if_pos ((pl_lt hx hk).mpr (by omega))]
    exact ⟨m, rfl⟩
  | succ j ih =>
    intro k n m hj hk hn hR
    obtain ⟨n, rfl⟩ : ∃ e, n = e + 1 := ⟨n - 1, by unfold pN at hn; omega⟩
    unfold lw_law_l18
    by_cases hlt : xs.length < 5 * k + 5
    · rw [if_pos ((pl_lt hx hk).mpr hlt)]
      exact ⟨m, rfl⟩
    rw [if_neg (fun z => hlt ((pl_lt hx hk).mp z)), if_pos (pl_in (by omega) hx)]
    have g1 : rn_in (nI (5 * k) + 1) xs.length = true := by rw [show (1 : Int32) = nI 1 by decide, pl_i]; exact pl_in (by omega) hx
    have g2 : rn_in (nI (5 * k) + 2) xs.length = true := by rw [show (2 : Int32) = nI 2 by decide, pl_i]; exact pl_in (by omega) hx
    have g3 : rn_in (nI (5 * k) + 3) xs.length = true := by rw [show (3 : Int32) = nI 3 by decide, pl_i]; exact pl_in (by omega) hx
    have g4 : rn_in (nI (5 * k) + 4) xs.length = true := by rw [show (4 : Int32) = nI 4 by decide, pl_i]; exact pl_in (by omega) hx
    have e5 : nI (5 * k) + 5 = nI (5 * (k + 1)) := by rw [show (5 : Int32) = nI 5 by decide, pl_i]; congr 1
    have go : ∀ m2, Rl m2 → ∃ mO, lw_law_l18 xs n (nI (5 * (k + 1))) m2 = some (.inr mO) := fun m2 h2 => ih (k + 1) n m2 (by omega) (by omega) (by omega) h2
    have hn2 : pN ≤ n := by omega
    generalize xs.getD (nI (5 * k)).toNatClampNeg 0 &&& 31 = op
    by_cases b0 : op = 0
    · rw [if_pos b0]
      simp only [g1, g2, g3, g4, if_true]
      obtain ⟨r, m1, m2, h1, h2, h3⟩ := H0 n hn2 ((((xs.getD (nI (5 * k) + 1).toNatClampNeg 0).toInt64) <<< ((32 : Int32).toInt64 &&& 63)) ||| (((xs.getD (nI (5 * k) + 2).toNatClampNeg 0).toInt64) &&& 4294967295)) (xs.getD (nI (5 * k) + 3).toNatClampNeg 0) m hR
      rw [h1]
      simp only [Option.bind_some]
      rw [h2]
      simp only [Option.bind_some, if_true, e5]
      exact go m2 h3
    rw [if_neg b0]
    by_cases b1 : op = 1
    · rw [if_pos b1]
      obtain ⟨r, m1, m2, h1, h2, h3⟩ := H1 n hn2  m hR
      rw [h1]
      simp only [Option.bind_some]
      rw [h2]
      simp only [Option.bind_some, if_true, e5]
      exact go m2 h3
    rw [if_neg b1]
    by_cases b2 : op = 2
    · rw [if_pos b2]
      obtain ⟨r, m1, m2, h1, h2, h3⟩ := H2 n hn2  m hR
      rw [h1]
      simp only [Option.bind_some]
      rw [h2]
      simp only [Option.bind_some, if_true, e5]
      exact go m2 h3
    rw [if_neg b2]
    by_cases b3 : op = 3
    · rw [if_pos b3]
      simp only [g1, g2, g3, g4, if_true]
      obtain ⟨r, m1, m2, h1, h2, h3⟩ := H3 n hn2 (xs.getD (nI (5 * k) + 1).toNatClampNeg 0) m hR
      rw [h1]
      simp only [Option.bind_some]
      rw [h2]
      simp only [Option.bind_some, if_true, e5]
      exact go m2 h3
    rw [if_neg b3]
    by_cases b4 : op = 4
    · rw [if_pos b4]
      simp only [g1, g2, g3, g4, if_true]
      obtain ⟨r, m1, m2, h1, h2, h3⟩ := H4 n hn2 (xs.getD (nI (5 * k) + 1).toNatClampNeg 0) (xs.getD (nI (5 * k) + 2).toNatClampNeg 0) m hR
      rw [h1]
      simp only [Option.bind_some]
      rw [h2]
      simp only [Option.bind_some, if_true, e5]
      exact go m2 h3
    rw [if_neg b4]
    by_cases b5 : op = 5
    · rw [if_pos b5]
      simp only [g1, g2, g3, g4, if_true]
      obtain ⟨r, m1, m2, h1, h2, h3⟩ := H5 n hn2 (xs.getD (nI (5 * k) + 1).toNatClampNeg 0) (xs.getD (nI (5 * k) + 2).toNatClampNeg 0) m hR
      rw [h1]
      simp only [Option.bind_some]
      rw [h2]
      simp only [Option.bind_some, if_true, e5]
      exact go m2 h3
    rw [if_neg b5]
    by_cases b6 : op = 6
    · rw [if_pos b6]
      simp only [g1, g2, g3, g4, if_true]
      obtain ⟨r, m1, m2, h1, h2, h3⟩ := H6 n hn2 (xs.getD (nI (5 * k) + 1).toNatClampNeg 0) (xs.getD (nI (5 * k) + 2).toNatClampNeg 0) m hR
      rw [h1]
      simp only [Option.bind_some]
      rw [h2]
      simp only [Option.bind_some, if_true, e5]
      exact go m2 h3
    rw [if_neg b6]
    by_cases b7 : op = 7
    · rw [if_pos b7]
      simp only [g1, g2, g3, g4, if_true]
      obtain ⟨r, m1, m2, h1, h2, h3⟩ := H7 n hn2 (xs.getD (nI (5 * k) + 1).toNatClampNeg 0) (xs.getD (nI (5 * k) + 2).toNatClampNeg 0) (xs.getD (nI (5 * k) + 3).toNatClampNeg 0) (xs.getD (nI (5 * k) + 4).toNatClampNeg 0) m hR
      rw [h1]
      simp only [Option.bind_some]
      rw [h2]
      simp only [Option.bind_some, if_true, e5]
      exact go m2 h3
    rw [if_neg b7]
    by_cases b8 : op = 8
    · rw [if_pos b8]
      obtain ⟨r, m1, m2, h1, h2, h3⟩ := H8 n hn2  m hR
      rw [h1]
      simp only [Option.bind_some]
      rw [h2]
      simp only [Option.bind_some, if_true, e5]
      exact go m2 h3
    rw [if_neg b8]
    by_cases b9 : op = 9
    · rw [if_pos b9]
      obtain ⟨r, m1, m2, h1, h2, h3⟩ := H9 n hn2  m hR
      rw [h1]
      simp only [Option.bind_some]
      rw [h2]
      simp only [Option.bind_some, pl_cmp, if_true, e5]
      exact go m2 h3
    rw [if_neg b9]
    by_cases b10 : op = 10
    · rw [if_pos b10]
      simp only [g1, g2, g3, g4, if_true]
      obtain ⟨r, m1, m2, h1, h2, h3⟩ := H10 n hn2 (xs.getD (nI (5 * k) + 1).toNatClampNeg 0) m hR
      rw [h1]
      simp only [Option.bind_some]
      rw [h2]
      simp only [Option.bind_some, if_true, e5]
      exact go m2 h3
    rw [if_neg b10]
    by_cases b11 : op = 11
    · rw [if_pos b11]
      simp only [g1, g2, g3, g4, if_true]
      obtain ⟨r, m1, m2, h1, h2, h3⟩ := H11 n hn2 (xs.getD (nI (5 * k) + 1).toNatClampNeg 0) m hR
      rw [h1]
      simp only [Option.bind_some]
      rw [h2]
      simp only [Option.bind_some, if_true, e5]
      exact go m2 h3
    rw [if_neg b11]
    by_cases b12 : op = 12
    · rw [if_pos b12]
      simp only [g1, g2, g3, g4, if_true]
      obtain ⟨r, m1, m2, h1, h2, h3⟩ := H12 n hn2 (xs.getD (nI (5 * k) + 1).toNatClampNeg 0) (xs.getD (nI (5 * k) + 2).toNatClampNeg 0) m hR
      rw [h1]
      simp only [Option.bind_some]
      rw [h2]
      simp only [Option.bind_some, if_true, e5]
      exact go m2 h3
    rw [if_neg b12]
    by_cases b13 : op = 13
    · rw [if_pos b13]
      simp only [g1, g2, g3, g4, if_true]
      obtain ⟨r, m1, m2, h1, h2, h3⟩ := H13 n hn2 (xs.getD (nI (5 * k) + 1).toNatClampNeg 0) (xs.getD (nI (5 * k) + 2).toNatClampNeg 0) m hR
      rw [h1]
      simp only [Option.bind_some]
      rw [h2]
      simp only [Option.bind_some, if_true, e5]
      exact go m2 h3
    rw [if_neg b13]
    by_cases b14 : op = 14
    · rw [if_pos b14]
      simp only [g1, g2, g3, g4, if_true]
      obtain ⟨r, m1, m2, h1, h2, h3⟩ := H14 n hn2 (xs.getD (nI (5 * k) + 1).toNatClampNeg 0) m hR
      rw [h1]
      simp only [Option.bind_some]
      rw [h2]
      simp only [Option.bind_some, if_true, e5]
      exact go m2 h3
    rw [if_neg b14]
    by_cases b15 : op = 15
    · rw [if_pos b15]
      simp only [g1, g2, g3, g4, if_true]
      obtain ⟨r, m1, m2, h1, h2, h3⟩ := H15 n hn2 (xs.getD (nI (5 * k) + 1).toNatClampNeg 0) m hR
      rw [h1]
      simp only [Option.bind_some]
      rw [h2]
      simp only [Option.bind_some, if_true, e5]
      exact go m2 h3
    rw [if_neg b15]
    by_cases b16 : op = 16
    · rw [if_pos b16]
      obtain ⟨r, m1, m2, h1, h2, h3⟩ := H16 n hn2  m hR
      rw [h1]
      simp only [Option.bind_some]
      rw [h2]
      simp only [Option.bind_some, if_true, e5]
      exact go m2 h3
    rw [if_neg b16]
    by_cases b17 : op = 17
    · rw [if_pos b17]
      obtain ⟨r, m1, m2, h1, h2, h3⟩ := H17 n hn2  m hR
      rw [h1]
      simp only [Option.bind_some]
      rw [h2]
      simp only [Option.bind_some, if_true, e5]
      exact go m2 h3
    rw [if_neg b17]
    by_cases b18 : op = 18
    · rw [if_pos b18]
      simp only [g1, g2, g3, g4, if_true]
      obtain ⟨r, m1, m2, h1, h2, h3⟩ := H18 n hn2 (xs.getD (nI (5 * k) + 1).toNatClampNeg 0) m hR
      rw [h1]
      simp only [Option.bind_some]
      rw [h2]
      simp only [Option.bind_some, if_true, e5]
      exact go m2 h3
    rw [if_neg b18]
    by_cases b19 : op = 19
    · rw [if_pos b19]
      simp only [g1, g2, g3, g4, if_true]
      obtain ⟨r, m1, m2, h1, h2, h3⟩ := H19 n hn2 (xs.getD (nI (5 * k) + 1).toNatClampNeg 0) (xs.getD (nI (5 * k) + 2).toNatClampNeg 0) (xs.getD (nI (5 * k) + 3).toNatClampNeg 0) (xs.getD (nI (5 * k) + 4).toNatClampNeg 0) m hR
      rw [h1]
      simp only [Option.bind_some]
      rw [h2]
      simp only [Option.bind_some, if_true, e5]
      exact go m2 h3
    rw [if_neg b19]
    by_cases b20 : op = 20
    · rw [if_pos b20]
      obtain ⟨r, m1, m2, h1, h2, h3⟩ := H20 n hn2  m hR
      rw [h1]
      simp only [Option.bind_some]
      rw [h2]
      simp only [Option.bind_some, if_true, e5]
      exact go m2 h3
    rw [if_neg b20]
    by_cases b21 : op = 21
    · rw [if_pos b21]
      simp only [g1, g2, g3, g4, if_true]
      obtain ⟨r, m1, m2, h1, h2, h3⟩ := H21 n hn2 (xs.getD (nI (5 * k) + 1).toNatClampNeg 0) (xs.getD (nI (5 * k) + 2).toNatClampNeg 0) m hR
      rw [h1]
      simp only [Option.bind_some]
      rw [h2]
      simp only [Option.bind_some, if_true, e5]
      exact go m2 h3
    rw [if_neg b21]
    by_cases b22 : op = 22
    · rw [if_pos b22]
      simp only [g1, g2, g3, g4, if_true]
      obtain ⟨r, m1, m2, h1, h2, h3⟩ := H22 n hn2 (xs.getD (nI (5 * k) + 1).toNatClampNeg 0) m hR
      rw [h1]
      simp only [Option.bind_some]
      rw [h2]
      simp only [Option.bind_some, if_true, e5]
      exact go m2 h3
    rw [if_neg b22]
    by_cases b23 : op = 23
    · rw [if_pos b23]
      simp only [g1, g2, g3, g4, if_true]
      obtain ⟨r, m1, m2, h1, h2, h3⟩ := H23 n hn2 (xs.getD (nI (5 * k) + 1).toNatClampNeg 0) m hR
      rw [h1]
      simp only [Option.bind_some]
      rw [h2]
      simp only [Option.bind_some, if_true, e5]
      exact go m2 h3
    rw [if_neg b23]
    by_cases b24 : op = 24
    · rw [if_pos b24]
      simp only [g1, g2, g3, g4, if_true]
      obtain ⟨r, m1, m2, h1, h2, h3⟩ := H24 n hn2 (xs.getD (nI (5 * k) + 1).toNatClampNeg 0) (xs.getD (nI (5 * k) + 2).toNatClampNeg 0) m hR
      rw [h1]
      simp only [Option.bind_some]
      rw [h2]
      simp only [Option.bind_some, if_true, e5]
      exact go m2 h3
    rw [if_neg b24]
    by_cases b25 : op = 25
    · rw [if_pos b25]
      simp only [g1, g2, g3, g4, if_true]
      obtain ⟨r, m1, m2, h1, h2, h3⟩ := H25 n hn2 (xs.getD (nI (5 * k) + 1).toNatClampNeg 0) m hR
      rw [h1]
      simp only [Option.bind_some]
      rw [h2]
      simp only [Option.bind_some, if_true, e5]
      exact go m2 h3
    rw [if_neg b25]
    by_cases b26 : op = 26
    · rw [if_pos b26]
      obtain ⟨r, m1, m2, h1, h2, h3⟩ := H26 n hn2  m hR
      rw [h1]
      simp only [Option.bind_some]
      rw [h2]
      simp only [Option.bind_some, if_true, e5]
      exact go m2 h3
    rw [if_neg b26]
    by_cases b27 : op = 27
    · rw [if_pos b27]
      obtain ⟨r, m1, m2, h1, h2, h3⟩ := H27 n hn2  m hR
      rw [h1]
      simp only [Option.bind_some]
      rw [h2]
      simp only [Option.bind_some, if_true, e5]
      exact go m2 h3
    rw [if_neg b27]
    by_cases b28 : op = 28
    · rw [if_pos b28]
      simp only [g1, g2, g3, g4, if_true]
      obtain ⟨r, m1, m2, h1, h2, h3⟩ := H28 n hn2 (xs.getD (nI (5 * k) + 1).toNatClampNeg 0) (xs.getD (nI (5 * k) + 2).toNatClampNeg 0) (xs.getD (nI (5 * k) + 3).toNatClampNeg 0) m hR
      rw [h1]
      simp only [Option.bind_some]
      rw [h2]
      simp only [Option.bind_some, if_true, e5]
      exact go m2 h3
    rw [if_neg b28]
    by_cases b29 : op = 29
    · rw [if_pos b29]
      simp only [g1, g2, g3, g4, if_true]
      obtain ⟨r, m1, m2, h1, h2, h3⟩ := H29 n hn2 (xs.getD (nI (5 * k) + 1).toNatClampNeg 0) m hR
      rw [h1]
      simp only [Option.bind_some]
      rw [h2]
      simp only [Option.bind_some, if_true, e5]
      exact go m2 h3
    rw [if_neg b29]
    by_cases b30 : op = 30
    · rw [if_pos b30]
      simp only [g1, g2, g3, g4, if_true]
      obtain ⟨r, m1, m2, h1, h2, h3⟩ := H30 n hn2 (xs.getD (nI (5 * k) + 1).toNatClampNeg 0) (xs.getD (nI (5 * k) + 2).toNatClampNeg 0) (xs.getD (nI (5 * k) + 3).toNatClampNeg 0) (xs.getD (nI (5 * k) + 4).toNatClampNeg 0) m hR
      rw [h1]
      simp only [Option.bind_some]
      rw [h2]
      simp only [Option.bind_some, if_true, e5]
      exact go m2 h3
    rw [if_neg b30]
    simp only [Option.bind_some, e5]
    exact go m hR
theorem pl_pure {Rl : rn_Mem → Prop} (H : PS_all Rl) (h0 : Rl rn_m00) : rn_Pure := by
  intro xs hx
  obtain ⟨mO, h⟩ := pl_loop H xs hx xs.length 0 (pN + 600) rn_m00 (by omega) (by omega) (by omega) h0
  exact ⟨_, mO, h⟩
