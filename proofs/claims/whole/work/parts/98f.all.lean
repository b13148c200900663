/-! SEARCH: the aim of all plays: the least row, who held, led, won -/
abbrev NV := Nat × Nat × Nat × Nat × Nat
def addN (S F0 : Nat → Nat) (Y : Nat → Nat → Nat) (Z : Nat → Nat → Nat → Nat) (v : NV) (w av : Nat → Nat) : NV := if nbG S F0 Z w av (S 2) = 0 ∧ bkG S F0 Y Z w av (S 2) = 0 then (v.1 + pmA S F0 Z w av (S 2), (if v.1 = 0 then rwA S F0 Z w av (S 2) else if rwA S F0 Z w av (S 2) < v.2.1 then rwA S F0 Z w av (S 2) else v.2.1), v.2.2.1 ||| hoA S F0 Z w av (S 2), v.2.2.2.1 ||| leA S F0 Z w av (S 2), v.2.2.2.2 ||| wiA S F0 Y w (S 2)) else v
def RA (v : Int64 × Int64 × Nat × Nat × Nat) (u : NV) : Prop := v.1 = lN u.1 ∧ v.2.2 = u.2.2 ∧ (0 < u.1 → u.1 < 2 ^ 62 → v.2.1 = lN u.2.1 ∧ u.2.1 < 2 ^ 62)
theorem lN_i63 {a : Nat} (h : a < 2 ^ 62) : (lN a).toInt = (a : Int) := lg_ofNat_toInt (by omega)
theorem minL_n {a b : Nat} (ha : a < 2 ^ 62) (hb : b < 2 ^ 62) : minL (lN a) (lN b) = lN (if b < a then b else a) := by
  unfold minL
  have e : 0 < lg_cmp (lN a) (lN b) ↔ b < a := by
    rw [lc_gt, Int64.lt_iff_toInt_lt, lN_i63 ha, lN_i63 hb]
    omega
  by_cases z : b < a
  · rw [if_pos (e.mpr z), if_pos z]
  · rw [if_neg (fun y => z (e.mp y)), if_neg z]
theorem RA_step {S F0 : Nat → Nat} {Y : Nat → Nat → Nat} {Z : Nat → Nat → Nat → Nat} {v : Int64 × Int64 × Nat × Nat × Nat} {u : NV} {w av : Nat → Nat} (h : RA v u) (h1 : 0 < pmA S F0 Z w av (S 2)) (h2 : rwA S F0 Z w av (S 2) < 2 ^ 62) : RA (addA S F0 Y Z v w av) (addN S F0 Y Z u w av) := by
  unfold addA addN
  by_cases z : nbG S F0 Z w av (S 2) = 0 ∧ bkG S F0 Y Z w av (S 2) = 0
  · rw [if_pos z, if_pos z]
    obtain ⟨a1, a2, a3⟩ := h
    refine ⟨?_, ?_, ?_⟩
    · show v.1 + lN (pmA S F0 Z w av (S 2)) = lN (u.1 + pmA S F0 Z w av (S 2))
      rw [a1, lN_add]
    · show (v.2.2.1 ||| hoA S F0 Z w av (S 2), v.2.2.2.1 ||| leA S F0 Z w av (S 2), v.2.2.2.2 ||| wiA S F0 Y w (S 2)) = (u.2.2.1 ||| hoA S F0 Z w av (S 2), u.2.2.2.1 ||| leA S F0 Z w av (S 2), u.2.2.2.2 ||| wiA S F0 Y w (S 2))
      rw [a2]
    · intro b1 b2
      show (if lg_cmp v.1 0 = 0 then lN (rwA S F0 Z w av (S 2)) else minL v.2.1 (lN (rwA S F0 Z w av (S 2)))) = lN (if u.1 = 0 then rwA S F0 Z w av (S 2) else if rwA S F0 Z w av (S 2) < u.2.1 then rwA S F0 Z w av (S 2) else u.2.1) ∧ (if u.1 = 0 then rwA S F0 Z w av (S 2) else if rwA S F0 Z w av (S 2) < u.2.1 then rwA S F0 Z w av (S 2) else u.2.1) < 2 ^ 62
      have b3 : u.1 + pmA S F0 Z w av (S 2) < 2 ^ 62 := b2
      have e : lg_cmp v.1 0 = 0 ↔ u.1 = 0 := by
        rw [lc_0, a1, show (0 : Int64) = lN 0 from rfl]
        exact fb_lN_inj (by omega) (by omega)
      by_cases y : u.1 = 0
      · rw [if_pos (e.mpr y), if_pos y]
        exact ⟨rfl, h2⟩
      · obtain ⟨c1, c2⟩ := a3 (by omega) (by omega)
        rw [if_neg (fun t => y (e.mp t)), if_neg y, c1, minL_n c2 h2]
        refine ⟨rfl, ?_⟩
        by_cases x : rwA S F0 Z w av (S 2) < u.2.1
        · rw [if_pos x]; exact h2
        · rw [if_neg x]; exact c2
  · rw [if_neg z, if_neg z]
    exact h
/-- the row of a line -/
def rwQ (S : Nat → Nat) (X : Nat → Nat → Nat → Nat) (w q : Nat → Nat) : Nat → Nat
  | 0 => ldQ S X w q 0
  | r + 1 => rwQ S X w q r * 16 ^ (S 1) + pk16 (xcQ S X w q r) (S 1)
theorem rwQ_g {S : Nat → Nat} {X : Nat → Nat → Nat → Nat} {w u q p : Nat → Nat} (h3 : 1 ≤ S 2) (h : agr S w u) (h2 : agr S q p) : ∀ {r : Nat}, r ≤ S 2 → rwQ S X w q r = rwQ S X u p r
  | 0, _ => by rw [rwQ, rwQ, ldQ_g h h2 (by omega)]
  | r + 1, hr => by rw [rwQ, rwQ, rwQ_g h3 h h2 (by omega), xcQ_g h h2 (by omega)]
theorem p16n (n : Nat) : 2 ^ (4 * n) = 16 ^ n := by rw [Nat.pow_mul]
/-- what one knows of the ways of a line -/
def WY (S : Nat → Nat) (X : Nat → Nat → Nat → Nat) (Y : Nat → Nat → Nat) (Z : Nat → Nat → Nat → Nat) (w av : Nat → Nat) : Prop := ∀ j, j < S 2 → w j < S 1 ∧ 0 < lfk S w (j + 1) (w j) ∧ av j < Y 2 (nnk S (F0S S) w j)
theorem xc_lt {S : Nat → Nat} {X : Nat → Nat → Nat → Nat} {w q : Nat → Nat} {k : Nat} (wg : WG S) (hH : HZ S X) (h1 : w k < S 1) (h2 : 0 < lfk S w (k + 1) (w k)) (h3 : q k < noS S) : ∀ i, i < S 1 → xcQ S X w q k i < 16 := by
  intro i hi
  have h4 := noS_f (S := S) wg.1 wg.2.1
  have h5 : od (S 1) (q k) i < S 1 := od_lt (S 1) (by have := wg.2.1; omega) wg.1 (q k) (by have := (noS_le (S := S) wg.1 wg.2.1).2; omega) (by omega) i hi
  exact hH.2 (w k) (ixk S w k) _ h1 (way_i h2) h5
theorem rwA_b {S : Nat → Nat} {X : Nat → Nat → Nat → Nat} {Y : Nat → Nat → Nat} {Z : Nat → Nat → Nat → Nat} {cl : Nat → Nat → Nat} {w av : Nat → Nat} (wg : WG S) (hH : HZ S X) (hG : GD S X Y Z cl) (hp : WY S X Y Z w av) : ∀ {r : Nat}, r ≤ S 2 → rwA S (F0S S) Z w av r < 4 * (16 ^ (S 1)) ^ r ∧ (∀ q, pks S cl w av q → rwA S (F0S S) Z w av r ≤ rwQ S X w q r) ∧ ∀ q, pks S cl w av q → (∀ j, j < S 2 → Z 7 (nnk S (F0S S) w j) (av j) = pk16 (xcQ S X w q j) (S 1)) → rwA S (F0S S) Z w av r = rwQ S X w q r
  | 0, hr => by
    have w3 : 1 ≤ S 2 := wg.2.2.1
    obtain ⟨b1, b2, b3⟩ := hp 0 (by omega)
    have hk : ∀ q, pks S cl w av q → kz S (F0S S) Z 1 w av 0 = ldQ S X w q 0 := fun q hq => (kz_1 hG b1 b2 (hq 0 (by omega)).2 (hq 0 (by omega)).1.symm).1
    have hl : kz S (F0S S) Z 1 w av 0 < 4 := by
      obtain ⟨x, x1, x2⟩ := cl_of hG b1 b2 b3
      have := (kz_1 (q := fun _ => x) hG b1 b2 x1 x2.symm).1
      rw [this]
      have := ldQ_lt (S := S) (X := X) (w := w) (q := fun _ => x) (k := 0) (by omega)
      have := wg.2.1
      omega
    refine ⟨?_, fun q hq => ?_, fun q hq _ => ?_⟩
    · rw [rwA, Nat.pow_zero, Nat.mul_one]; exact hl
    · rw [rwA, rwQ, hk q hq]; exact Nat.le_refl _
    · rw [rwA, rwQ, hk q hq]
  | r + 1, hr => by
    obtain ⟨i1, i2, i3⟩ := rwA_b wg hH hG hp (r := r) (by omega)
    obtain ⟨b1, b2, b3⟩ := hp r (by omega)
    obtain ⟨_, _, g1, g2⟩ := way_G hG b1 b2
    obtain ⟨⟨x, x1, x2, x3⟩, _, _, x4⟩ := g2 (av r) b3
    have x3 : Z 7 (nnk S (F0S S) w r) (av r) = pk16 (xcQ S X w (fun _ => x) r) (S 1) := x3
    have hz : kz S (F0S S) Z 7 w av r < 16 ^ (S 1) := by
      unfold kz
      rw [x3]
      exact pk16_lt (xc_lt wg hH b1 b2 x1)
    have er : rwA S (F0S S) Z w av (r + 1) = rwA S (F0S S) Z w av r * 16 ^ (S 1) + kz S (F0S S) Z 7 w av r := by
      rw [rwA, Nat.mul_comm, ← Nat.two_pow_add_eq_or_of_lt (by rw [p16n]; exact hz), p16n, Nat.mul_comm]
    rw [er]
    refine ⟨?_, fun q hq => ?_, fun q hq ht => ?_⟩
    · have : (rwA S (F0S S) Z w av r + 1) * 16 ^ (S 1) ≤ 4 * (16 ^ (S 1)) ^ r * 16 ^ (S 1) := Nat.mul_le_mul_right _ i1
      rw [Nat.add_mul, Nat.one_mul] at this
      rw [Nat.pow_succ, ← Nat.mul_assoc]
      omega
    · rw [rwQ]
      obtain ⟨q1, q2⟩ := hq r (by omega)
      exact Nat.add_le_add (Nat.mul_le_mul_right _ (i2 q hq)) (x4 (q r) q2 q1)
    · rw [rwQ, i3 q hq ht]
      congr 1
      exact ht r (by omega)
theorem rwA_lt {S : Nat → Nat} {X : Nat → Nat → Nat → Nat} {Y : Nat → Nat → Nat} {Z : Nat → Nat → Nat → Nat} {cl : Nat → Nat → Nat} {w av : Nat → Nat} (wg : WG S) (hH : HZ S X) (hG : GD S X Y Z cl) (hp : WY S X Y Z w av) : rwA S (F0S S) Z w av (S 2) < 2 ^ 62 := by
  have h := (rwA_b wg hH hG hp (r := S 2) (Nat.le_refl _)).1
  rw [← Nat.pow_mul] at h
  have h2 : 16 ^ (S 1 * S 2) ≤ 16 ^ 12 := Nat.pow_le_pow_right (by omega) wg.2.2.2.2.1
  have : (4 : Nat) * 16 ^ 12 < 2 ^ 62 := by decide
  omega
/-- an order of each way, one of which has the least row -/
theorem pks_7 {S : Nat → Nat} {X : Nat → Nat → Nat → Nat} {Y : Nat → Nat → Nat} {Z : Nat → Nat → Nat → Nat} {cl : Nat → Nat → Nat} {w av : Nat → Nat} (hG : GD S X Y Z cl) (hp : WY S X Y Z w av) : ∃ q, pks S cl w av q ∧ ∀ j, j < S 2 → Z 7 (nnk S (F0S S) w j) (av j) = pk16 (xcQ S X w q j) (S 1) := by
  have h : ∀ j, ∃ x, j < S 2 → (cl (nnk S (F0S S) w j) x = av j ∧ x < noS S) ∧ Z 7 (nnk S (F0S S) w j) (av j) = pk16 (xcQ S X w (fun _ => x) j) (S 1) := by
    intro j
    by_cases hj : j < S 2
    · obtain ⟨b1, b2, b3⟩ := hp j hj
      obtain ⟨_, _, _, g2⟩ := way_G hG b1 b2
      obtain ⟨⟨x, x1, x2, x3⟩, _⟩ := g2 (av j) b3
      exact ⟨x, fun _ => ⟨⟨x2, x1⟩, x3⟩⟩
    · exact ⟨0, fun z => absurd z hj⟩
  exact ⟨fun j => Classical.choose (h j), fun j hj => (Classical.choose_spec (h j) hj).1, fun j hj => (Classical.choose_spec (h j) hj).2⟩
theorem pm_pos {S : Nat → Nat} {X : Nat → Nat → Nat → Nat} {Y : Nat → Nat → Nat} {Z : Nat → Nat → Nat → Nat} {cl : Nat → Nat → Nat} {w av : Nat → Nat} (hG : GD S X Y Z cl) (hp : WY S X Y Z w av) : 0 < pmA S (F0S S) Z w av (S 2) := by
  rw [pmA_P hG hp (Nat.le_refl _)]
  refine pct_pos fun j hj => ?_
  obtain ⟨b1, b2, b3⟩ := hp j hj
  exact cl_of hG b1 b2 b3
theorem hoA_bit {S F0 : Nat → Nat} {Z : Nat → Nat → Nat → Nat} {w av : Nat → Nat} {x : Nat} : ∀ {r : Nat}, (hoA S F0 Z w av r).testBit x = true ↔ ∃ j, j < r ∧ (kz S F0 Z 6 w av j).testBit x = true
  | 0 => by
    rw [hoA, Nat.zero_testBit]
    exact ⟨fun h => absurd h (by decide), fun ⟨j, h, _⟩ => absurd h (Nat.not_lt_zero j)⟩
  | r + 1 => by
    rw [hoA, Nat.testBit_or, Bool.or_eq_true, hoA_bit]
    constructor
    · rintro (⟨j, h1, h2⟩ | h)
      · exact ⟨j, by omega, h2⟩
      · exact ⟨r, by omega, h⟩
    · rintro ⟨j, h1, h2⟩
      by_cases z : j = r
      · rw [z] at h2; exact Or.inr h2
      · exact Or.inl ⟨j, by omega, h2⟩
theorem leA_bit {S F0 : Nat → Nat} {Z : Nat → Nat → Nat → Nat} {w av : Nat → Nat} {x : Nat} : ∀ {r : Nat}, (leA S F0 Z w av r).testBit x = true ↔ ∃ j, j < r ∧ 4 * j + kz S F0 Z 1 w av j = x
  | 0 => by
    rw [leA, Nat.zero_testBit]
    exact ⟨fun h => absurd h (by decide), fun ⟨j, h, _⟩ => absurd h (Nat.not_lt_zero j)⟩
  | r + 1 => by
    rw [leA, Nat.testBit_or, Bool.or_eq_true, leA_bit, Nat.testBit_two_pow, decide_eq_true_iff]
    constructor
    · rintro (⟨j, h1, h2⟩ | h)
      · exact ⟨j, by omega, h2⟩
      · exact ⟨r, by omega, h⟩
    · rintro ⟨j, h1, h2⟩
      by_cases z : j = r
      · rw [z] at h2; exact Or.inr h2
      · exact Or.inl ⟨j, by omega, h2⟩
theorem wiA_bit {S F0 : Nat → Nat} {Y : Nat → Nat → Nat} {w : Nat → Nat} {x : Nat} : ∀ {r : Nat}, (wiA S F0 Y w r).testBit x = true ↔ ∃ j, j < r ∧ 4 * j + Y 0 (nnk S F0 w j) = x
  | 0 => by
    rw [wiA, Nat.zero_testBit]
    exact ⟨fun h => absurd h (by decide), fun ⟨j, h, _⟩ => absurd h (Nat.not_lt_zero j)⟩
  | r + 1 => by
    rw [wiA, Nat.testBit_or, Bool.or_eq_true, wiA_bit, Nat.testBit_two_pow, decide_eq_true_iff]
    constructor
    · rintro (⟨j, h1, h2⟩ | h)
      · exact ⟨j, by omega, h2⟩
      · exact ⟨r, by omega, h⟩
    · rintro ⟨j, h1, h2⟩
      by_cases z : j = r
      · rw [z] at h2; exact Or.inr h2
      · exact Or.inl ⟨j, by omega, h2⟩
