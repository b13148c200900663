/-! SEARCH: the cards that are not seen, and where they lie -/
def vlS (S : Nat → Nat) (p : Nat) : Bool := decide (p / 12 < S 1 ∧ p % 12 < S (12 + p / 12))
def unS (S : Nat → Nat) (p : Nat) : Bool := vlS S p && decide (16 ≤ S (16 + p))
def atS (S : Nat → Nat) (x p : Nat) : Bool := vlS S p && decide (S (16 + p) = x)
def snS (S : Nat → Nat) (x : Nat) : Bool := decide (0 < fb_ct (atS S x) 48)
def msS (S : Nat → Nat) (x : Nat) : Bool := (S 3).testBit x && !snS S x
theorem vl_ci {S : Nat → Nat} {c i : Nat} (hi : i < 12) : vlS S (12 * c + i) = decide (c < S 1 ∧ i < S (12 + c)) := by
  unfold vlS
  rw [show (12 * c + i) / 12 = c by omega, show (12 * c + i) % 12 = i by omega]
theorem sz_12 {S : Nat → Nat} (wg : WG S) (wt : WT S) (h9 : S 9 = 1) {c : Nat} (hc : c < S 1) : S (12 + c) ≤ 12 := by
  have h := fb_sm_part (fun c => S (12 + c)) hc
  rw [(wt.2 h9).2.1] at h
  have : S 1 * S 2 ≤ 12 := wg.2.2.2.2.1
  have h : fb_sm (fun c => S (12 + c)) c + S (12 + c) ≤ S 1 * S 2 := h
  omega
theorem ct_blk {S : Nat → Nat} {P : Nat → Bool} (hs : ∀ c, c < S 1 → S (12 + c) ≤ 12) : ∀ {C : Nat}, C ≤ S 1 → fb_ct (fun p => vlS S p && P p) (12 * C) = fb_sm (fun c => fb_ct (fun i => P (12 * c + i)) (S (12 + c))) C
  | 0, _ => rfl
  | C + 1, hC => by
    rw [Nat.mul_add, Nat.mul_one, fb_ct_split, ct_blk hs (by omega), fb_sm_succ]
    congr 1
    have h1 := hs C (by omega)
    have e : fb_ct (fun k => vlS S (12 * C + k) && P (12 * C + k)) (S (12 + C) + (12 - S (12 + C))) = fb_ct (fun i => P (12 * C + i)) (S (12 + C)) := by
      rw [fb_ct_split, fb_ct_cong (q := fun i => P (12 * C + i)) fun k hk => by rw [vl_ci (by omega), decide_eq_true ⟨by omega, hk⟩, Bool.true_and]]
      have : fb_ct (fun k => vlS S (12 * C + (S (12 + C) + k)) && P (12 * C + (S (12 + C) + k))) (12 - S (12 + C)) = 0 := by
        refine fb_ct_zero.mpr fun k hk => ?_
        rw [vl_ci (by omega), decide_eq_false (by omega), Bool.false_and]
      rw [this, Nat.add_zero]
    rw [show S (12 + C) + (12 - S (12 + C)) = 12 by omega] at e
    exact e
theorem ct_48 {S : Nat → Nat} {P : Nat → Bool} (hn : S 1 ≤ 4) (hs : ∀ c, c < S 1 → S (12 + c) ≤ 12) : fb_ct (fun p => vlS S p && P p) 48 = fb_sm (fun c => fb_ct (fun i => P (12 * c + i)) (S (12 + c))) (S 1) := by
  have e : fb_ct (fun p => vlS S p && P p) (12 * S 1 + (48 - 12 * S 1)) = fb_sm (fun c => fb_ct (fun i => P (12 * c + i)) (S (12 + c))) (S 1) := by
    rw [fb_ct_split, ct_blk hs (Nat.le_refl _)]
    have : fb_ct (fun k => vlS S (12 * S 1 + k) && P (12 * S 1 + k)) (48 - 12 * S 1) = 0 := by
      refine fb_ct_zero.mpr fun k hk => ?_
      unfold vlS
      rw [decide_eq_false (by omega), Bool.false_and]
    rw [this, Nat.add_zero]
  rw [show 12 * S 1 + (48 - 12 * S 1) = 48 by omega] at e
  exact e
theorem un_48 {S : Nat → Nat} (wg : WG S) (wt : WT S) (h9 : S 9 = 1) : fb_ct (unS S) 48 = uc S := by
  show fb_ct (fun p => vlS S p && decide (16 ≤ S (16 + p))) 48 = _
  rw [ct_48 wg.2.1 fun c hc => sz_12 wg wt h9 hc]
  unfold uc
  exact fb_sm_cong fun c hc => fb_ct_cong fun i hi => by rw [← Nat.add_assoc]
theorem vl_48 {S : Nat → Nat} (wg : WG S) (wt : WT S) (h9 : S 9 = 1) : fb_ct (vlS S) 48 = S 1 * S 2 := by
  rw [fb_ct_cong (q := fun p => vlS S p && true) fun k hk => (Bool.and_true _).symm, ct_48 (P := fun _ => true) wg.2.1 fun c hc => sz_12 wg wt h9 hc, ← (wt.2 h9).2.1]
  exact fb_sm_cong fun c hc => fb_ct_all.mpr fun k hk => rfl
theorem ct_sm (p : Nat → Bool) : ∀ n, fb_ct p n = fb_sm (fun i => if p i = true then 1 else 0) n
  | 0 => rfl
  | n + 1 => by rw [fb_ct_succ, fb_sm_succ, ct_sm p n]
theorem ct_u {p : Nat → Bool} {n : Nat} (h : ∀ i j, i < n → j < n → p i = true → p j = true → i = j) : fb_ct p n ≤ 1 := by
  by_cases z : 1 < fb_ct p n
  · obtain ⟨i, i1, i2, i3⟩ := fb_ct_kth (k := 0) (show 0 < fb_ct p n by omega)
    obtain ⟨j, j1, j2, j3⟩ := fb_ct_kth (k := 1) z
    have := h i j i1 j1 i2 j2
    rw [this, j3] at i3
    exact absurd i3 (by omega)
  · omega
theorem at_u {S : Nat → Nat} (wt : WT S) (h9 : S 9 = 1) {x : Nat} (hx : x < 16) {p r : Nat} (h1 : atS S x p = true) (h2 : atS S x r = true) : p = r := by
  unfold atS vlS at h1 h2
  rw [Bool.and_eq_true, decide_eq_true_iff, decide_eq_true_iff] at h1 h2
  obtain ⟨⟨a1, a2⟩, a3⟩ := h1
  obtain ⟨⟨b1, b2⟩, b3⟩ := h2
  have e1 : 16 + 12 * (p / 12) + p % 12 = 16 + p := by omega
  have e2 : 16 + 12 * (r / 12) + r % 12 = 16 + r := by omega
  obtain ⟨c1, c2⟩ := (wt.2 h9).2.2.2.1 (p / 12) (p % 12) (r / 12) (r % 12) a1 a2 b1 b2 (by rw [e1, a3]; exact hx) (by rw [e1, e2, a3, b3])
  omega
theorem sn_iff {S : Nat → Nat} {x : Nat} (hn : S 1 ≤ 4) (hs : ∀ c, c < S 1 → S (12 + c) ≤ 12) : snS S x = true ↔ ∃ c i, c < S 1 ∧ i < S (12 + c) ∧ S (16 + 12 * c + i) = x := by
  unfold snS
  rw [decide_eq_true_iff, fb_ct_pos]
  constructor
  · rintro ⟨p, h1, h2⟩
    unfold atS vlS at h2
    rw [Bool.and_eq_true, decide_eq_true_iff, decide_eq_true_iff] at h2
    exact ⟨p / 12, p % 12, h2.1.1, h2.1.2, by rw [show 16 + 12 * (p / 12) + p % 12 = 16 + p by omega]; exact h2.2⟩
  · rintro ⟨c, i, h1, h2, h3⟩
    have := hs c h1
    refine ⟨12 * c + i, by omega, ?_⟩
    unfold atS
    rw [vl_ci (by omega), decide_eq_true ⟨h1, h2⟩, Bool.true_and, decide_eq_true_iff, ← Nat.add_assoc]
    exact h3
/-- as many cards lack as lie unseen -/
theorem msc_16 {S : Nat → Nat} (wg : WG S) (wt : WT S) (h9 : S 9 = 1) : fb_ct (msS S) 16 = uc S := by
  have hs : ∀ c, c < S 1 → S (12 + c) ≤ 12 := fun c hc => sz_12 wg wt h9 hc
  have hpk : fb_ct (fun i => (S 3).testBit i) 16 = S 1 * S 2 := wg.2.2.2.2.2.2.2.2.2.2.2
  have hsub : ∀ x, x < 16 → snS S x = true → (S 3).testBit x = true := by
    intro x hx h
    obtain ⟨c, i, h1, h2, h3⟩ := (sn_iff wg.2.1 hs).mp h
    have := ((wt.2 h9).2.2.1 c i h1 h2).2
    rw [h3] at this
    exact this hx
  have e1 : fb_ct (fun i => (S 3).testBit i) 16 = fb_ct (msS S) 16 + fb_ct (snS S) 16 := by
    rw [← fb_ct_or fun k hk y => by
      have := y.1
      unfold msS at this
      rw [y.2] at this
      simp at this]
    refine fb_ct_cong fun x hx => ?_
    show (S 3).testBit x = (msS S x || snS S x)
    unfold msS
    cases h : snS S x with
    | true => rw [hsub x hx h]; rfl
    | false => simp
  have e2 : fb_ct (snS S) 16 = fb_sm (fun x => fb_ct (atS S x) 48) 16 := by
    rw [ct_sm]
    refine fb_sm_cong fun x hx => ?_
    have hu : fb_ct (atS S x) 48 ≤ 1 := ct_u fun i j _ _ h1 h2 => at_u wt h9 hx h1 h2
    unfold snS
    by_cases z : 0 < fb_ct (atS S x) 48
    · rw [if_pos (decide_eq_true z)]; omega
    · rw [if_neg (by rw [decide_eq_true_iff]; exact z)]; omega
  have e3 : fb_sm (fun x => fb_ct (atS S x) 48) 16 = fb_ct (fun p => vlS S p && !unS S p) 48 := by
    rw [fb_sm_cong fun x hx => ct_sm (atS S x) 48, fb_sm_swap (fun x p => if atS S x p = true then 1 else 0) 48 16, ct_sm]
    refine fb_sm_cong fun p hp => ?_
    rw [← ct_sm (fun x => atS S x p) 16]
    by_cases z : vlS S p = true ∧ S (16 + p) < 16
    · have : unS S p = false := by unfold unS; rw [decide_eq_false (by omega), Bool.and_false]
      rw [if_pos (by rw [z.1, this]; rfl)]
      have h1 : fb_ct (fun x => atS S x p) 16 ≤ 1 := ct_u fun i j _ _ h1 h2 => by
        unfold atS at h1 h2
        rw [Bool.and_eq_true, decide_eq_true_iff] at h1 h2
        omega
      have h2 : 0 < fb_ct (fun x => atS S x p) 16 := fb_ct_pos.mpr ⟨S (16 + p), z.2, by unfold atS; rw [z.1, decide_eq_true rfl]; rfl⟩
      omega
    · have h1 : fb_ct (fun x => atS S x p) 16 = 0 := by
        refine fb_ct_zero.mpr fun x hx => ?_
        cases h : atS S x p with
        | false => rfl
        | true =>
          unfold atS at h
          rw [Bool.and_eq_true, decide_eq_true_iff] at h
          exact absurd ⟨h.1, by omega⟩ z
      rw [h1, if_neg]
      intro y
      rw [Bool.and_eq_true] at y
      have : unS S p = true := by
        unfold unS
        rw [y.1, Bool.true_and, decide_eq_true_iff]
        have : ¬ S (16 + p) < 16 := fun t => z ⟨y.1, t⟩
        omega
      rw [this] at y
      exact absurd y.2 (by decide)
  have e4 : fb_ct (vlS S) 48 = fb_ct (unS S) 48 + fb_ct (fun p => vlS S p && !unS S p) 48 := by
    rw [← fb_ct_or fun k hk y => by
      have := y.2
      rw [y.1] at this
      simp at this]
    refine fb_ct_cong fun p hp => ?_
    show vlS S p = (unS S p || (vlS S p && !unS S p))
    unfold unS
    cases vlS S p with
    | true => cases decide (16 ≤ S (16 + p)) with
      | true => rfl
      | false => rfl
    | false => rfl
  rw [vl_48 wg wt h9, un_48 wg wt h9] at e4
  omega
def nth (p : Nat → Bool) (s : Nat) : Nat → Nat
  | 0 => 0
  | N + 1 => if p N = true ∧ fb_ct p N = s then N else nth p s N
theorem nth_sp {p : Nat → Bool} {s : Nat} : ∀ {N : Nat}, s < fb_ct p N → nth p s N < N ∧ p (nth p s N) = true ∧ fb_ct p (nth p s N) = s
  | 0, h => absurd h (Nat.not_lt_zero s)
  | N + 1, h => by
    rw [nth]
    by_cases z : p N = true ∧ fb_ct p N = s
    · rw [if_pos z]
      exact ⟨by omega, z⟩
    · rw [if_neg z]
      have h2 : s < fb_ct p N := by
        rw [fb_ct_succ] at h
        by_cases y : p N = true
        · rw [if_pos y] at h
          have : fb_ct p N ≠ s := fun t => z ⟨y, t⟩
          omega
        · rw [if_neg y] at h
          omega
      obtain ⟨a1, a2, a3⟩ := nth_sp h2
      exact ⟨by omega, a2, a3⟩
theorem nth_of {p : Nat → Bool} {x N : Nat} (h : p x = true) (hx : x < N) : nth p (fb_ct p x) N = x := by
  have h1 : fb_ct p x < fb_ct p N := by
    have h2 : fb_ct p (x + 1) ≤ fb_ct p N := fb_ct_mono p hx
    rw [fb_ct_succ, if_pos h] at h2
    omega
  obtain ⟨a1, a2, a3⟩ := nth_sp h1
  exact fb_ct_kth_one a2 h a3
theorem od_lt3 : ∀ n, n < 4 → ∀ q, q < 6 → q < fac n → ∀ j, j < n → od n q j < n := by decide +kernel
theorem od_in3 (n : Nat) (h : n < 4) (q : Nat) (hq : q < fac n) (i : Nat) (hi : i < n) (j : Nat) (hj : j < n) (e : od n q i = od n q j) : i = j := by
  have : n = 1 ∨ n = 2 ∨ n = 3 := by omega
  rcases this with rfl | rfl | rfl
  · omega
  · exact od_i2 q hq j hj i hi e
  · exact od_i3 q hq j hj i hi e
theorem fac_6 : ∀ n, n < 4 → fac n ≤ 6 := by decide
/-- the cards, with those that lack laid in order number r -/
def XF (S : Nat → Nat) (r c i j : Nat) : Nat := if S (16 + (12 * c + S 1 * i + j)) < 16 then S (16 + (12 * c + S 1 * i + j)) else nth (msS S) (od (uc S) r (fb_ct (unS S) (12 * c + S 1 * i + j))) 16
theorem mm_sum {S : Nat → Nat} (wg : WG S) (wt : WT S) (h9 : S 9 = 1) : fb_sm (mmS S) (S 1) = S 2 := by
  have e : ∀ C, C ≤ S 1 → fb_sm (fun c => S (12 + c)) C = S 1 * fb_sm (mmS S) C := by
    intro C
    induction C with
    | zero => intro _; rfl
    | succ C ih =>
      intro hC
      rw [fb_sm_succ, fb_sm_succ, ih (by omega), Nat.mul_add]
      congr 1
      exact heap_won wt h9 (by omega)
  have h := e (S 1) (Nat.le_refl _)
  rw [(wt.2 h9).2.1] at h
  have w1 : 2 ≤ S 1 := wg.1
  exact (Nat.eq_of_mul_eq_mul_left (by omega) h).symm
theorem sl_in {S : Nat → Nat} (wt : WT S) (h9 : S 9 = 1) {c i j : Nat} (hc : c < S 1) (hi : i < mmS S c) (hj : j < S 1) : S 1 * i + j < S (12 + c) := by
  rw [heap_won wt h9 hc]
  unfold mmS at hi
  have : S 1 * (i + 1) ≤ S 1 * (S (12 + c) / S 1) := Nat.mul_le_mul_left _ hi
  rw [Nat.mul_add] at this
  omega
theorem XF_k {S : Nat → Nat} (wg : WG S) (wt : WT S) (h9 : S 9 = 1) {c i j : Nat} (hc : c < S 1) (hi : i < mmS S c) (hj : j < S 1) : vlS S (12 * c + S 1 * i + j) = true ∧ 12 * c + S 1 * i + j < 48 ∧ (12 * c + S 1 * i + j) / 12 = c ∧ (12 * c + S 1 * i + j) % 12 = S 1 * i + j := by
  have h1 := sl_in wt h9 hc hi hj
  have h2 := sz_12 wg wt h9 hc
  have h3 : S 1 ≤ 4 := wg.2.1
  have e1 : (12 * c + S 1 * i + j) / 12 = c := by omega
  have e2 : (12 * c + S 1 * i + j) % 12 = S 1 * i + j := by omega
  refine ⟨?_, by omega, e1, e2⟩
  unfold vlS
  rw [e1, e2, decide_eq_true ⟨hc, h1⟩]
theorem XF_u {S : Nat → Nat} (wg : WG S) (wt : WT S) (h9 : S 9 = 1) {r p : Nat} (hr : r < fac (uc S)) (hp : unS S p = true) (h48 : p < 48) : fb_ct (unS S) p < uc S ∧ od (uc S) r (fb_ct (unS S) p) < uc S ∧ nth (msS S) (od (uc S) r (fb_ct (unS S) p)) 16 < 16 ∧ msS S (nth (msS S) (od (uc S) r (fb_ct (unS S) p)) 16) = true ∧ fb_ct (msS S) (nth (msS S) (od (uc S) r (fb_ct (unS S) p)) 16) = od (uc S) r (fb_ct (unS S) p) := by
  have h3 : uc S ≤ 3 := (wt.2 h9).2.2.2.2
  have h1 : fb_ct (unS S) p < uc S := by
    rw [← un_48 wg wt h9]
    have h2 : fb_ct (unS S) (p + 1) ≤ fb_ct (unS S) 48 := fb_ct_mono _ h48
    rw [fb_ct_succ, if_pos hp] at h2
    omega
  have h2 := od_lt3 (uc S) (by omega) r (by have := fac_6 (uc S) (by omega); omega) hr _ h1
  obtain ⟨a1, a2, a3⟩ := nth_sp (p := msS S) (s := od (uc S) r (fb_ct (unS S) p)) (N := 16) (by rw [msc_16 wg wt h9]; exact h2)
  exact ⟨h1, h2, a1, a2, a3⟩
theorem XF_HZ {S : Nat → Nat} (wg : WG S) (wt : WT S) (h9 : S 9 = 1) {r : Nat} (hr : r < fac (uc S)) : HZ S (XF S r) := by
  refine ⟨mm_sum wg wt h9, fun c i j hc hi hj => ?_⟩
  obtain ⟨k1, k2, _⟩ := XF_k wg wt h9 hc hi hj
  unfold XF
  by_cases z : S (16 + (12 * c + S 1 * i + j)) < 16
  · rw [if_pos z]; exact z
  · rw [if_neg z]
    exact (XF_u wg wt h9 hr (by unfold unS; rw [k1, decide_eq_true (by omega)]; rfl) k2).2.2.1
theorem XF_DX {S : Nat → Nat} (wg : WG S) (wt : WT S) (h9 : S 9 = 1) {r : Nat} (hr : r < fac (uc S)) : DX S (XF S r) := by
  intro c i j d k l hc hi hj hd hk hl h
  have hs : ∀ c, c < S 1 → S (12 + c) ≤ 12 := fun c hc => sz_12 wg wt h9 hc
  have h3 : uc S ≤ 3 := (wt.2 h9).2.2.2.2
  obtain ⟨k1, k2, k3, k4⟩ := XF_k wg wt h9 hc hi hj
  obtain ⟨l1, l2, l3, l4⟩ := XF_k wg wt h9 hd hk hl
  have fin : 12 * c + S 1 * i + j = 12 * d + S 1 * k + l → c = d ∧ i = k ∧ j = l := by
    intro e
    rw [e] at k3 k4
    have e1 : c = d := by omega
    have e2 : S 1 * i + j = S 1 * k + l := by omega
    have e3 : (S 1 * i + j) / S 1 = i := by rw [Nat.mul_add_div (by omega), Nat.div_eq_of_lt hj, Nat.add_zero]
    have e4 : (S 1 * k + l) / S 1 = k := by rw [Nat.mul_add_div (by omega), Nat.div_eq_of_lt hl, Nat.add_zero]
    have e5 : i = k := by rw [← e3, e2, e4]
    rw [e5] at e2
    exact ⟨e1, e5, by omega⟩
  have seen : ∀ {p}, vlS S p = true → S (16 + p) < 16 → snS S (S (16 + p)) = true := by
    intro p y1 y2
    unfold vlS at y1
    rw [decide_eq_true_iff] at y1
    exact (sn_iff wg.2.1 hs).mpr ⟨p / 12, p % 12, y1.1, y1.2, by rw [show 16 + 12 * (p / 12) + p % 12 = 16 + p by omega]⟩
  have nms : ∀ {x}, msS S x = true → snS S x = true → False := by
    intro x y1 y2
    unfold msS at y1
    rw [y2] at y1
    simp at y1
  have mk : ∀ {p}, vlS S p = true → ¬ S (16 + p) < 16 → unS S p = true := by
    intro p y1 y2
    unfold unS
    rw [y1, decide_eq_true (by omega)]
    rfl
  unfold XF at h
  by_cases z1 : S (16 + (12 * c + S 1 * i + j)) < 16
  · rw [if_pos z1] at h
    by_cases z2 : S (16 + (12 * d + S 1 * k + l)) < 16
    · rw [if_pos z2] at h
      refine fin (at_u wt h9 z1 (x := S (16 + (12 * c + S 1 * i + j))) ?_ ?_)
      · unfold atS; rw [k1, decide_eq_true rfl]; rfl
      · unfold atS; rw [l1, decide_eq_true h.symm]; rfl
    · rw [if_neg z2] at h
      obtain ⟨_, _, _, u4, _⟩ := XF_u wg wt h9 hr (mk l1 z2) l2
      rw [← h] at u4
      exact (nms u4 (seen k1 z1)).elim
  · rw [if_neg z1] at h
    obtain ⟨t1, t2, t3, t4, t5⟩ := XF_u wg wt h9 hr (mk k1 z1) k2
    by_cases z2 : S (16 + (12 * d + S 1 * k + l)) < 16
    · rw [if_pos z2] at h
      rw [h] at t4
      exact (nms t4 (seen l1 z2)).elim
    · rw [if_neg z2] at h
      obtain ⟨u1, u2, u3, u4, u5⟩ := XF_u wg wt h9 hr (mk l1 z2) l2
      rw [h, u5] at t5
      have := od_in3 (uc S) (by omega) r hr _ u1 _ t1 t5
      exact fin (fb_ct_kth_one (mk l1 z2) (mk k1 z1) this).symm
