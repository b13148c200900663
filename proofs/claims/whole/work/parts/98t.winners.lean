/-! THE REFERENCE'S SEARCH: rows of winners that fit the heaps -/
theorem fw_l117 {S w : Nat → Nat} {c : Nat} {m : rn_Mem} {a1 a2 a3 a5 : Int32} (wg : WG S) (hc : c < S 1) (z2 : m.1 116 2 = nI (S 2)) (hw : ∀ j, j < S 2 → m.1 128 j = nI (w j)) (hb : ∀ j, j < S 2 → w j < S 1) : ∀ (r k nf : Nat), k + r = S 2 → r < nf → mo_findWinners_l117 a1 a2 a3 a5 (nI c) nf (nI (fb_ct (fun j => decide (w j = c)) k)) (nI k) m = some (nI (ctw S w c), m) := by
  have w2 : S 1 ≤ 4 := wg.2.1
  have w4 : S 2 ≤ 4 := wg.2.2.2.1
  intro r
  induction r with
  | zero =>
    intro k nf e hnf
    obtain ⟨nf, rfl⟩ : ∃ e, nf = e + 1 := ⟨nf - 1, by omega⟩
    obtain rfl : k = S 2 := by omega
    rw [mo_findWinners_l117, z2, if_neg (by rw [nI_ltI (by omega) (by omega)]; omega)]
    rfl
  | succ r ih =>
    intro k nf e hnf
    obtain ⟨nf, rfl⟩ : ∃ e, nf = e + 1 := ⟨nf - 1, by omega⟩
    have h := ih (k + 1) nf (by omega) (by omega)
    have hk := hb k (by omega)
    rw [fb_ct_succ] at h
    rw [mo_findWinners_l117, z2, if_pos (by rw [nI_ltI (by omega) (by omega)]; omega), if_pos ((in_n (by omega)).mpr (by omega)), nI_n (by omega), hw k (by omega)]
    by_cases z : w k = c
    · rw [if_pos (decide_eq_true z)] at h
      rw [if_pos (by rw [z]), Option.bind_some, Option.bind_some, Option.bind_some, nI_1, nI_1]
      exact h
    · rw [if_neg (by rw [decide_eq_true_iff]; exact z), Nat.add_zero] at h
      rw [if_neg (by rw [nI_eq (by omega) (by omega)]; exact z), Option.bind_some, Option.bind_some, Option.bind_some, nI_1, k0, nI_add, Nat.add_zero]
      exact h
theorem fw_l100 {S w : Nat → Nat} {m : rn_Mem} {a1 a2 a3 : Int32} (wg : WG S) (hs : ∀ c, c < S 1 → S (12 + c) ≤ 12) (hz : zOT S (m.1 116)) (hw : ∀ j, j < S 2 → m.1 128 j = nI (w j)) (hb : ∀ j, j < S 2 → w j < S 1) : ∀ (r c nf : Nat) (b : Bool), c + r = S 1 → r + 10 < nf → ∃ b2 : Bool, mo_findWinners_l100 a1 a2 a3 nf (if b = true then 1 else 0) (nI c) m = some (if b2 = true then 1 else 0, m) ∧ (b2 = true ↔ b = true ∧ ∀ d, c ≤ d → d < S 1 → ctw S w d * S 1 = S (12 + d)) := by
  have w2 : S 1 ≤ 4 := wg.2.1
  have w4 : S 2 ≤ 4 := wg.2.2.2.1
  have z1 : m.1 116 1 = nI (S 1) := hz.1 1 (by omega) (by omega) (by omega) (by omega)
  have z2 : m.1 116 2 = nI (S 2) := hz.1 2 (by omega) (by omega) (by omega) (by omega)
  intro r
  induction r with
  | zero =>
    intro c nf b e hnf
    obtain ⟨nf, rfl⟩ : ∃ e, nf = e + 1 := ⟨nf - 1, by omega⟩
    refine ⟨b, ?_, ⟨fun h => ⟨h, fun d h1 h2 => by omega⟩, fun h => h.1⟩⟩
    rw [mo_findWinners_l100, z1, if_neg (by rw [nI_ltI (by omega) (by omega)]; omega)]
  | succ r ih =>
    intro c nf b e hnf
    obtain ⟨nf, rfl⟩ : ∃ e, nf = e + 1 := ⟨nf - 1, by omega⟩
    have hct : ctw S w c ≤ S 2 := fb_ct_le _ _
    have hmul : ctw S w c * S 1 ≤ 16 := by
      have := Nat.mul_le_mul hct w2
      omega
    have hsc := hs c (by omega)
    obtain ⟨b2, p1, p2⟩ := ih (c + 1) nf (b && decide (ctw S w c * S 1 = S (12 + c))) (by omega) (by omega)
    refine ⟨b2, ?_, ?_⟩
    · have zc : m.1 116 (12 + c) = nI (S (12 + c)) := hz.1 (12 + c) (by omega) (by omega) (by omega) (by omega)
      rw [mo_findWinners_l100, z1, if_pos (by rw [nI_ltI (by omega) (by omega)]; omega), show mo_findWinners_l117 a1 a2 a3 (if b = true then 1 else 0) (nI c) nf 0 0 m = some (nI (ctw S w c), m) from fw_l117 wg (by omega) z2 hw hb (S 2) 0 nf (by omega) (by omega), Option.bind_some]
      simp only []
      rw [z1, k12, nI_add, pk_mul, nI_n (by omega), zc]
      cases b with
      | false =>
        rw [if_pos (by rw [if_neg (by decide)]), Option.bind_some, Option.bind_some, nI_1]
        exact p1
      | true =>
        rw [if_neg (by rw [if_pos rfl]; decide), if_pos ((in_n (by omega)).mpr (by omega))]
        by_cases z : ctw S w c * S 1 = S (12 + c)
        · rw [if_pos (by rw [z]), Option.bind_some, Option.bind_some, nI_1]
          rw [decide_eq_true z] at p1
          exact p1
        · rw [if_neg (by rw [nI_eq (by omega) (by omega)]; exact z), Option.bind_some, Option.bind_some, nI_1]
          rw [decide_eq_false z] at p1
          exact p1
    · rw [p2, Bool.and_eq_true, decide_eq_true_iff]
      constructor
      · rintro ⟨⟨h1, h2⟩, h3⟩
        refine ⟨h1, fun d h4 h5 => ?_⟩
        by_cases z : d = c
        · rw [z]; exact h2
        · exact h3 d (by omega) h5
      · rintro ⟨h1, h2⟩
        exact ⟨⟨h1, h2 c (by omega) (by omega)⟩, fun d h4 h5 => h2 d (by omega) h5⟩
theorem fit_iff {S w : Nat → Nat} (wg : WG S) (wt : WT S) (h9 : S 9 = 1) : (∀ d, d < S 1 → ctw S w d * S 1 = S (12 + d)) ↔ ∀ c, c < S 1 → ctw S w c = mmS S c := by
  have w1 : 2 ≤ S 1 := wg.1
  have h : ∀ c, c < S 1 → S (12 + c) = mmS S c * S 1 := fun c hc => (wt.2 h9).1 c hc
  constructor
  · intro y c hc
    have := y c hc
    rw [h c hc] at this
    exact Nat.eq_of_mul_eq_mul_right (by omega) this
  · intro y c hc
    rw [y c hc, h c hc]
