/-! THE REFERENCE'S SEARCH: what the clues let -/
def CTk (S : Nat → Nat) (M k : Nat) (tr pl su : Nat → Nat) (x : Nat) : Prop := M.testBit x = true → (S (64 + 4 * x) = 0 → tr (S (66 + 4 * x)) = k → pl (S (66 + 4 * x)) = S (65 + 4 * x)) ∧ (S (64 + 4 * x) = 3 → S (67 + 4 * x) = k → (su (S (65 + 4 * x))).testBit (S (66 + 4 * x)) = false)
def CO (S : Nat → Nat) (M : Nat) (ld tr : Nat → Nat) (x : Nat) : Prop := M.testBit x = true → (S (64 + 4 * x) = 1 → ld (S (66 + 4 * x)) = S (65 + 4 * x)) ∧ (S (64 + 4 * x) = 2 → tr (S (65 + 4 * x)) < tr (S (66 + 4 * x)))
theorem clz {S : Nat → Nat} {z : Nat → Int32} {i : Nat} (hz : zOT S z) (hi : i < 6) : z (64 + 4 * i) = nI (S (64 + 4 * i)) ∧ z (64 + 4 * i + 1) = nI (S (65 + 4 * i)) ∧ z (64 + 4 * i + 2) = nI (S (66 + 4 * i)) ∧ z (64 + 4 * i + 3) = nI (S (67 + 4 * i)) := by
  refine ⟨hz.1 _ (by omega) (by omega) (by omega) (by omega), ?_, ?_, ?_⟩
  · rw [show 64 + 4 * i + 1 = 65 + 4 * i by omega]; exact hz.1 _ (by omega) (by omega) (by omega) (by omega)
  · rw [show 64 + 4 * i + 2 = 66 + 4 * i by omega]; exact hz.1 _ (by omega) (by omega) (by omega) (by omega)
  · rw [show 64 + 4 * i + 3 = 67 + 4 * i by omega]; exact hz.1 _ (by omega) (by omega) (by omega) (by omega)
theorem clt_l4 {S : Nat → Nat} {M k : Nat} {tr pl su : Nat → Nat} {m : rn_Mem} (wg : WG S) (wc : WC S) (hk : k < S 2) (hz : zOT S (m.1 116)) (hM : M < 2 ^ 31) (h6 : m.1 115 6 = nI M) (h137 : ∀ x, x < 16 → (S 3).testBit x = true → m.1 137 x = nI (tr x) ∧ tr x < 4) (h136 : ∀ x, x < 16 → (S 3).testBit x = true → tr x = k → m.1 136 x = nI (pl x) ∧ pl x < 4) (h134 : ∀ c, c < S 1 → m.1 134 (4 * k + c) = nI (su c) ∧ su c < 16) : ∀ (r i nf : Nat) (b : Bool), i + r = S 10 → r < nf → ∃ b2 : Bool, mo_cluesLetTrick_l4 (nI k) nf (if b = true then 1 else 0) (nI i) m = some (if b2 = true then 1 else 0, m) ∧ (b2 = true ↔ b = true ∧ ∀ x, i ≤ x → x < S 10 → CTk S M k tr pl su x) := by
  have w2 : S 1 ≤ 4 := wg.2.1
  have w4 : S 2 ≤ 4 := wg.2.2.2.1
  have c6 := wc.1
  have z10 : m.1 116 10 = nI (S 10) := hz.1 10 (by omega) (by omega) (by omega) (by omega)
  intro r
  induction r with
  | zero =>
    intro i nf b e hnf
    obtain ⟨nf, rfl⟩ : ∃ e, nf = e + 1 := ⟨nf - 1, by omega⟩
    obtain rfl : i = S 10 := by omega
    refine ⟨b, ?_, fun h => ⟨h, fun x h1 h2 => by omega⟩, fun h => h.1⟩
    rw [mo_cluesLetTrick_l4, z10, if_neg (by rw [nI_ltI (by omega) (by omega)]; omega)]
  | succ r ih =>
    intro i nf b e hnf
    obtain ⟨nf, rfl⟩ : ∃ e, nf = e + 1 := ⟨nf - 1, by omega⟩
    obtain ⟨z0, z1, z2, z3⟩ := clz hz (show i < 6 by omega)
    have hw := wc.2 i (by omega)
    obtain ⟨wl1, wl2, wl3, wl4, _⟩ := WK_lt wg hw
    have hbody : ∃ b1 : Bool, ((if (((m.1 115 6) >>> (nI i &&& 31)) &&& 1) = 1 then (show Option (Int32) from if (if b = true then (1 : Int32) else 0) = 0 then some (0) else if rn_in (nI (64 + 4 * i)) 101 = true then if (m.1 116 (nI (64 + 4 * i)).toNatClampNeg) = 0 then if rn_in (nI (64 + 4 * i) + 2) 101 = true then if rn_in (m.1 116 (nI (64 + 4 * i) + 2).toNatClampNeg) 16 = true then if (m.1 137 (m.1 116 (nI (64 + 4 * i) + 2).toNatClampNeg).toNatClampNeg) = nI k then if rn_in (nI (64 + 4 * i) + 2) 101 = true then if rn_in (m.1 116 (nI (64 + 4 * i) + 2).toNatClampNeg) 16 = true then if rn_in (nI (64 + 4 * i) + 1) 101 = true then if (m.1 136 (m.1 116 (nI (64 + 4 * i) + 2).toNatClampNeg).toNatClampNeg) = (m.1 116 (nI (64 + 4 * i) + 1).toNatClampNeg) then some (1) else some (0) else none else none else none else some (1) else none else none else some (1) else none).bind fun x15 => (show Option (Int32) from if x15 = 0 then some (0) else if rn_in (nI (64 + 4 * i)) 101 = true then if (m.1 116 (nI (64 + 4 * i)).toNatClampNeg) = 3 then if rn_in (nI (64 + 4 * i) + 3) 101 = true then if (m.1 116 (nI (64 + 4 * i) + 3).toNatClampNeg) = nI k then if rn_in (nI (64 + 4 * i) + 1) 101 = true then if rn_in (((4 : Int32) * nI k) + (m.1 116 (nI (64 + 4 * i) + 1).toNatClampNeg)) 20 = true then if rn_in (nI (64 + 4 * i) + 2) 101 = true then if (((m.1 134 (((4 : Int32) * nI k) + (m.1 116 (nI (64 + 4 * i) + 1).toNatClampNeg)).toNatClampNeg) >>> ((m.1 116 (nI (64 + 4 * i) + 2).toNatClampNeg) &&& 31)) &&& 1) = 0 then some (1) else some (0) else none else none else none else some (1) else none else some (1) else none).bind fun x27 => some (x27) else some (if b = true then (1 : Int32) else 0)) : Option Int32) = some (if b1 = true then 1 else 0) ∧ (b1 = true ↔ b = true ∧ CTk S M k tr pl su i) := by
      have e1 : nI (64 + 4 * i) + 1 = nI (64 + 4 * i + 1) := nI_1 _
      have e2 : nI (64 + 4 * i) + 2 = nI (64 + 4 * i + 2) := nI_add _ 2
      have e3 : nI (64 + 4 * i) + 3 = nI (64 + 4 * i + 3) := nI_add _ 3
      rw [e1, e2, e3, nI_n (by omega), nI_n (by omega), nI_n (by omega), nI_n (by omega), z0, z1, z2, z3, h6, nI_n (by omega)]
      have i0 : rn_in (nI (64 + 4 * i)) 101 = true := (in_n (by omega)).mpr (by omega)
      have i1 : rn_in (nI (64 + 4 * i + 1)) 101 = true := (in_n (by omega)).mpr (by omega)
      have i2 : rn_in (nI (64 + 4 * i + 2)) 101 = true := (in_n (by omega)).mpr (by omega)
      have i3 : rn_in (nI (64 + 4 * i + 3)) 101 = true := (in_n (by omega)).mpr (by omega)
      have i6 : rn_in (nI (S (66 + 4 * i))) 16 = true := (in_n (by omega)).mpr (by omega)
      simp only [if_pos i0, if_pos i1, if_pos i2, if_pos i3, if_pos i6]
      by_cases yM : M.testBit i = true
      case neg =>
        rw [if_neg (fun t => yM ((bit_1 hM (by omega)).mp t))]
        exact ⟨b, rfl, fun h => ⟨h, fun t => absurd t yM⟩, fun h => h.1⟩
      rw [if_pos ((bit_1 hM (by omega)).mpr yM)]
      cases b with
      | false => exact ⟨false, rfl, fun h => absurd h (by decide), fun h => absurd h.1 (by decide)⟩
      | true =>
        rw [if_neg (show ¬ (if true = true then (1 : Int32) else 0) = 0 by decide)]
        rcases hw with hw | hw | hw | hw
        · rw [if_pos (show nI (S (64 + 4 * i)) = 0 by rw [hw.1]; rfl)]
          obtain ⟨q1, q2⟩ := h137 _ hw.2.2.1 hw.2.2.2.1
          rw [q1]
          by_cases y : tr (S (66 + 4 * i)) = k
          · obtain ⟨q3, q4⟩ := h136 _ hw.2.2.1 hw.2.2.2.1 y
            rw [if_pos (show nI (tr (S (66 + 4 * i))) = nI k by rw [y]), q3]
            by_cases y2 : pl (S (66 + 4 * i)) = S (65 + 4 * i)
            · rw [if_pos (by rw [y2]), Option.bind_some, if_neg (by decide), if_neg (show ¬ nI (S (64 + 4 * i)) = 3 by rw [hw.1]; decide)]
              exact ⟨true, rfl, fun _ => ⟨rfl, fun _ => ⟨fun _ _ => y2, fun t => by omega⟩⟩, fun _ => rfl⟩
            · rw [if_neg (by rw [nI_eq (by omega) (by omega)]; exact y2), Option.bind_some, if_pos rfl]
              exact ⟨false, rfl, fun h => absurd h (by decide), fun h => absurd ((h.2 yM).1 hw.1 y) y2⟩
          · rw [if_neg (by rw [nI_eq (by omega) (by omega)]; exact y), Option.bind_some, if_neg (by decide), if_neg (show ¬ nI (S (64 + 4 * i)) = 3 by rw [hw.1]; decide)]
            exact ⟨true, rfl, fun _ => ⟨rfl, fun _ => ⟨fun _ t => absurd t y, fun t => by omega⟩⟩, fun _ => rfl⟩
        · rw [if_neg (show ¬ nI (S (64 + 4 * i)) = 0 by rw [hw.1]; decide), Option.bind_some, if_neg (by decide), if_neg (show ¬ nI (S (64 + 4 * i)) = 3 by rw [hw.1]; decide)]
          exact ⟨true, rfl, fun _ => ⟨rfl, fun _ => ⟨fun t => by omega, fun t => by omega⟩⟩, fun _ => rfl⟩
        · rw [if_neg (show ¬ nI (S (64 + 4 * i)) = 0 by rw [hw.1]; decide), Option.bind_some, if_neg (by decide), if_neg (show ¬ nI (S (64 + 4 * i)) = 3 by rw [hw.1]; decide)]
          exact ⟨true, rfl, fun _ => ⟨rfl, fun _ => ⟨fun t => by omega, fun t => by omega⟩⟩, fun _ => rfl⟩
        · obtain ⟨q1, q2⟩ := h134 _ hw.2.1
          rw [if_neg (show ¬ nI (S (64 + 4 * i)) = 0 by rw [hw.1]; decide), Option.bind_some, if_neg (by decide), if_pos (show nI (S (64 + 4 * i)) = 3 by rw [hw.1]; rfl)]
          by_cases y : S (67 + 4 * i) = k
          · rw [if_pos (by rw [y]), m4k, nI_add, if_pos ((in_n (by omega)).mpr (by omega)), nI_n (by omega), q1]
            by_cases y2 : (su (S (65 + 4 * i))).testBit (S (66 + 4 * i)) = false
            · rw [if_pos ((bit_0 (by omega) (by omega)).mpr y2)]
              exact ⟨true, rfl, fun _ => ⟨rfl, fun _ => ⟨fun t => by omega, fun _ _ => y2⟩⟩, fun _ => rfl⟩
            · rw [if_neg (fun t => y2 ((bit_0 (by omega) (by omega)).mp t))]
              exact ⟨false, rfl, fun h => absurd h (by decide), fun h => absurd ((h.2 yM).2 hw.1 y) y2⟩
          · rw [if_neg (by rw [nI_eq (by omega) (by omega)]; exact y)]
            exact ⟨true, rfl, fun _ => ⟨rfl, fun _ => ⟨fun t => by omega, fun _ t => absurd t y⟩⟩, fun _ => rfl⟩
    obtain ⟨b1, g1, g2⟩ := hbody
    obtain ⟨b2, g3, g4⟩ := ih (i + 1) nf b1 (by omega) (by omega)
    refine ⟨b2, ?_, ?_⟩
    · rw [mo_cluesLetTrick_l4, z10, if_pos (by rw [nI_ltI (by omega) (by omega)]; omega), show (64 : Int32) + (4 : Int32) * nI i = nI (64 + 4 * i) by rw [k64, m4k, nI_add], Option.bind_some]
      try simp only []
      rw [g1, Option.bind_some, nI_1, Option.bind_some]
      exact g3
    · rw [g4, g2]
      constructor
      · rintro ⟨⟨h1, h2⟩, h3⟩
        refine ⟨h1, fun x hx1 hx2 => ?_⟩
        by_cases y : x = i
        · rw [y]; exact h2
        · exact h3 x (by omega) hx2
      · rintro ⟨h1, h2⟩
        exact ⟨⟨h1, h2 i (by omega) (by omega)⟩, fun x hx1 hx2 => h2 x (by omega) hx2⟩
theorem clt_sp {S : Nat → Nat} {M k nf : Nat} {tr pl su : Nat → Nat} {m : rn_Mem} (hnf : 10 < nf) (wg : WG S) (wc : WC S) (hk : k < S 2) (hz : zOT S (m.1 116)) (hM : M < 2 ^ 31) (h6 : m.1 115 6 = nI M) (h137 : ∀ x, x < 16 → (S 3).testBit x = true → m.1 137 x = nI (tr x) ∧ tr x < 4) (h136 : ∀ x, x < 16 → (S 3).testBit x = true → tr x = k → m.1 136 x = nI (pl x) ∧ pl x < 4) (h134 : ∀ c, c < S 1 → m.1 134 (4 * k + c) = nI (su c) ∧ su c < 16) : ∃ b2 : Bool, mo_cluesLetTrick nf (nI k) m = some (if b2 = true then 1 else 0, m) ∧ (b2 = true ↔ ∀ x, x < S 10 → CTk S M k tr pl su x) := by
  obtain ⟨b2, g1, g2⟩ := clt_l4 wg wc hk hz hM h6 h137 h136 h134 (S 10) 0 nf true (by omega) (by have := wc.1; omega)
  refine ⟨b2, ?_, by rw [g2]; exact ⟨fun h x hx => h.2 x (Nat.zero_le x) hx, fun h => ⟨rfl, fun x _ hx => h x hx⟩⟩⟩
  rw [mo_cluesLetTrick, show mo_cluesLetTrick_l4 (nI k) nf 1 0 m = _ from g1, Option.bind_some]
  try simp only []
  cases b2 with
  | true => exact if_pos (Or.inr (by decide))
  | false => exact if_pos (Or.inl (by decide))
theorem clo_l4 {S : Nat → Nat} {M : Nat} {ld tr : Nat → Nat} {m : rn_Mem} (wg : WG S) (wc : WC S) (hz : zOT S (m.1 116)) (hM : M < 2 ^ 31) (h6 : m.1 115 6 = nI M) (h137 : ∀ x, x < 16 → (S 3).testBit x = true → m.1 137 x = nI (tr x) ∧ tr x < 4) (h129 : ∀ k, k < S 2 → m.1 129 k = nI (ld k) ∧ ld k < 4) : ∀ (r i nf : Nat) (b : Bool), i + r = S 10 → r < nf → ∃ b2 : Bool, mo_cluesLetOrder_l4 nf (if b = true then 1 else 0) (nI i) m = some (if b2 = true then 1 else 0, m) ∧ (b2 = true ↔ b = true ∧ ∀ x, i ≤ x → x < S 10 → CO S M ld tr x) := by
  have w2 : S 1 ≤ 4 := wg.2.1
  have w4 : S 2 ≤ 4 := wg.2.2.2.1
  have c6 := wc.1
  have z10 : m.1 116 10 = nI (S 10) := hz.1 10 (by omega) (by omega) (by omega) (by omega)
  intro r
  induction r with
  | zero =>
    intro i nf b e hnf
    obtain ⟨nf, rfl⟩ : ∃ e, nf = e + 1 := ⟨nf - 1, by omega⟩
    obtain rfl : i = S 10 := by omega
    refine ⟨b, ?_, fun h => ⟨h, fun x h1 h2 => by omega⟩, fun h => h.1⟩
    rw [mo_cluesLetOrder_l4, z10, if_neg (by rw [nI_ltI (by omega) (by omega)]; omega)]
  | succ r ih =>
    intro i nf b e hnf
    obtain ⟨nf, rfl⟩ : ∃ e, nf = e + 1 := ⟨nf - 1, by omega⟩
    obtain ⟨z0, z1, z2, z3⟩ := clz hz (show i < 6 by omega)
    have hw := wc.2 i (by omega)
    obtain ⟨wl1, wl2, wl3, wl4, _⟩ := WK_lt wg hw
    have i0 : rn_in (nI (64 + 4 * i)) 101 = true := (in_n (by omega)).mpr (by omega)
    have i1 : rn_in (nI (64 + 4 * i + 1)) 101 = true := (in_n (by omega)).mpr (by omega)
    have i2 : rn_in (nI (64 + 4 * i + 2)) 101 = true := (in_n (by omega)).mpr (by omega)
    have e1 : nI (64 + 4 * i) + 1 = nI (64 + 4 * i + 1) := nI_1 _
    have e2 : nI (64 + 4 * i) + 2 = nI (64 + 4 * i + 2) := nI_add _ 2
    have st : ∃ b1 : Bool, (b1 = true ↔ b = true ∧ CO S M ld tr i) ∧ mo_cluesLetOrder_l4 (nf + 1) (if b = true then 1 else 0) (nI i) m = mo_cluesLetOrder_l4 nf (if b1 = true then 1 else 0) (nI (i + 1)) m := by
      rw [mo_cluesLetOrder_l4, z10, if_pos (by rw [nI_ltI (by omega) (by omega)]; omega), show (64 : Int32) + (4 : Int32) * nI i = nI (64 + 4 * i) by rw [k64, m4k, nI_add], Option.bind_some, h6, show nI i + 1 = nI (i + 1) from nI_1 i]
      simp only [e1, e2]
      by_cases yM : M.testBit i = true
      case neg =>
        rw [if_neg (fun t => yM ((bit_1 hM (by omega)).mp t)), Option.bind_some, Option.bind_some]
        exact ⟨b, ⟨fun h => ⟨h, fun t => absurd t yM⟩, fun h => h.1⟩, rfl⟩
      rw [if_pos ((bit_1 hM (by omega)).mpr yM)]
      cases b with
      | false => exact ⟨false, ⟨fun h => absurd h (by decide), fun h => absurd h.1 (by decide)⟩, rfl⟩
      | true =>
        rw [if_neg (show ¬ (if true = true then (1 : Int32) else 0) = 0 by decide)]
        simp only [if_pos i0, if_pos i1, if_pos i2, nI_n (show 64 + 4 * i < 2 ^ 31 by omega), nI_n (show 64 + 4 * i + 1 < 2 ^ 31 by omega), nI_n (show 64 + 4 * i + 2 < 2 ^ 31 by omega), z0, z1, z2]
        rcases hw with hw | hw | hw | hw
        · rw [if_neg (show ¬ nI (S (64 + 4 * i)) = 1 by rw [hw.1]; decide), if_neg (show ¬ nI (S (64 + 4 * i)) = 2 by rw [hw.1]; decide), Option.bind_some, Option.bind_some, Option.bind_some]
          exact ⟨true, ⟨fun _ => ⟨(by trivial), fun _ => ⟨fun t => by omega, fun t => by omega⟩⟩, fun _ => rfl⟩, rfl⟩
        · obtain ⟨q1, q2⟩ := h129 _ hw.2.2.1
          rw [if_pos (show nI (S (64 + 4 * i)) = 1 by rw [hw.1]; rfl), if_pos (show rn_in (nI (S (66 + 4 * i))) 4 = true from (in_n (by omega)).mpr (by omega)), nI_n (by omega), q1]
          by_cases y : ld (S (66 + 4 * i)) = S (65 + 4 * i)
          · rw [if_pos (by rw [y]), if_neg (show ¬ nI (S (64 + 4 * i)) = 2 by rw [hw.1]; decide), Option.bind_some, Option.bind_some, Option.bind_some]
            exact ⟨true, ⟨fun _ => ⟨(by trivial), fun _ => ⟨fun _ => y, fun t => by omega⟩⟩, fun _ => rfl⟩, rfl⟩
          · rw [if_neg (by rw [nI_eq (by omega) (by omega)]; exact y), Option.bind_some, Option.bind_some, Option.bind_some]
            exact ⟨false, ⟨fun h => absurd h (by decide), fun h => absurd ((h.2 yM).1 hw.1) y⟩, rfl⟩
        · obtain ⟨q1, q2⟩ := h137 _ hw.2.1 hw.2.2.1
          obtain ⟨q3, q4⟩ := h137 _ hw.2.2.2.1 hw.2.2.2.2.1
          rw [if_neg (show ¬ nI (S (64 + 4 * i)) = 1 by rw [hw.1]; decide), if_pos (show nI (S (64 + 4 * i)) = 2 by rw [hw.1]; rfl), if_pos (show rn_in (nI (S (65 + 4 * i))) 16 = true from (in_n (by omega)).mpr (by omega)), if_pos (show rn_in (nI (S (66 + 4 * i))) 16 = true from (in_n (by omega)).mpr (by omega)), nI_n (show S (65 + 4 * i) < 2 ^ 31 by omega), nI_n (show S (66 + 4 * i) < 2 ^ 31 by omega), q1, q3]
          by_cases y : tr (S (65 + 4 * i)) < tr (S (66 + 4 * i))
          · rw [if_pos (by rw [nI_ltI (by omega) (by omega)]; exact y), Option.bind_some, Option.bind_some, Option.bind_some]
            exact ⟨true, ⟨fun _ => ⟨(by trivial), fun _ => ⟨fun t => by omega, fun _ => y⟩⟩, fun _ => rfl⟩, rfl⟩
          · rw [if_neg (by rw [nI_ltI (by omega) (by omega)]; exact y), Option.bind_some, Option.bind_some, Option.bind_some]
            exact ⟨false, ⟨fun h => absurd h (by decide), fun h => absurd ((h.2 yM).2 hw.1) y⟩, rfl⟩
        · rw [if_neg (show ¬ nI (S (64 + 4 * i)) = 1 by rw [hw.1]; decide), if_neg (show ¬ nI (S (64 + 4 * i)) = 2 by rw [hw.1]; decide), Option.bind_some, Option.bind_some, Option.bind_some]
          exact ⟨true, ⟨fun _ => ⟨(by trivial), fun _ => ⟨fun t => by omega, fun t => by omega⟩⟩, fun _ => rfl⟩, rfl⟩
    obtain ⟨b1, g2, g1⟩ := st
    obtain ⟨b2, g3, g4⟩ := ih (i + 1) nf b1 (by omega) (by omega)
    refine ⟨b2, by rw [g1]; exact g3, ?_⟩
    rw [g4, g2]
    constructor
    · rintro ⟨⟨h1, h2⟩, h3⟩
      refine ⟨h1, fun x hx1 hx2 => ?_⟩
      by_cases y : x = i
      · rw [y]; exact h2
      · exact h3 x (by omega) hx2
    · rintro ⟨h1, h2⟩
      exact ⟨⟨h1, h2 i (by omega) (by omega)⟩, fun x hx1 hx2 => h2 x (by omega) hx2⟩
theorem clo_sp {S : Nat → Nat} {M nf : Nat} {ld tr : Nat → Nat} {m : rn_Mem} (hnf : 10 < nf) (wg : WG S) (wc : WC S) (hz : zOT S (m.1 116)) (hM : M < 2 ^ 31) (h6 : m.1 115 6 = nI M) (h137 : ∀ x, x < 16 → (S 3).testBit x = true → m.1 137 x = nI (tr x) ∧ tr x < 4) (h129 : ∀ k, k < S 2 → m.1 129 k = nI (ld k) ∧ ld k < 4) : ∃ b2 : Bool, mo_cluesLetOrder nf m = some (if b2 = true then 1 else 0, m) ∧ (b2 = true ↔ ∀ x, x < S 10 → CO S M ld tr x) := by
  obtain ⟨b2, g1, g2⟩ := clo_l4 wg wc hz hM h6 h137 h129 (S 10) 0 nf true (by omega) (by have := wc.1; omega)
  refine ⟨b2, ?_, by rw [g2]; exact ⟨fun h x hx => h.2 x (Nat.zero_le x) hx, fun h => ⟨rfl, fun x _ hx => h x hx⟩⟩⟩
  rw [mo_cluesLetOrder, show mo_cluesLetOrder_l4 nf 1 0 m = _ from g1, Option.bind_some]
  try simp only []
  cases b2 with
  | true => exact if_pos (Or.inr (by decide))
  | false => exact if_pos (Or.inl (by decide))
