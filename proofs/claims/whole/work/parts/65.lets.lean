/-! FOLLOW: which cards of a hand may be played; hands -/
/-- the cards of a suit in a hand -/
def sm (H s : Nat) : Nat := H &&& (15 * 2 ^ (4 * s))
theorem f15 : ∀ s, s < 4 → ∀ x, x < 16 → (15 * 2 ^ (4 * s)).testBit x = decide (x / 4 = s) := by decide
theorem f15_lt : ∀ s, s < 4 → 15 * 2 ^ (4 * s) < 2 ^ 16 := by decide
theorem sm_bit {H s x : Nat} (hs : s < 4) (hx : x < 16) : (sm H s).testBit x = (H.testBit x && decide (x / 4 = s)) := by
  unfold sm
  rw [Nat.testBit_and, f15 s hs x hx]
theorem sm_lt {H s : Nat} (hs : s < 4) : sm H s < 2 ^ 16 := Nat.lt_of_le_of_lt Nat.and_le_right (f15_lt s hs)
theorem sm_0 {H s : Nat} (hs : s < 4) : sm H s = 0 ↔ ∀ x, x < 16 → x / 4 = s → H.testBit x = false := by
  constructor
  · intro h x hx hxs
    have := sm_bit (H := H) hs hx
    rw [h, Nat.zero_testBit, decide_eq_true hxs, Bool.and_true] at this
    exact this.symm
  · intro h
    apply Nat.eq_of_testBit_eq
    intro x
    rw [Nat.zero_testBit]
    by_cases hx : x < 16
    · rw [sm_bit hs hx]
      by_cases hxs : x / 4 = s
      · rw [h x hx hxs]; rfl
      · rw [decide_eq_false hxs, Bool.and_false]
    · exact bit_high (sm_lt hs) (by omega)
theorem hs_0 {H s : Nat} (hs : s < 4) : H / 2 ^ (4 * s) % 16 = 0 ↔ sm H s = 0 := by
  rw [sm_0 hs]
  have e : ∀ i, (H / 2 ^ (4 * s) % 16).testBit i = (decide (i < 4) && H.testBit (4 * s + i)) := by
    intro i
    rw [show (16 : Nat) = 2 ^ 4 from rfl, Nat.testBit_mod_two_pow, Nat.testBit_div_two_pow, Nat.add_comm]
  constructor
  · intro h x hx hxs
    have := e (x - 4 * s)
    rw [h, Nat.zero_testBit, decide_eq_true (by omega), Bool.true_and, show 4 * s + (x - 4 * s) = x by omega] at this
    exact this.symm
  · intro h
    apply Nat.eq_of_testBit_eq
    intro i
    rw [e, Nat.zero_testBit]
    by_cases hi : i < 4
    · rw [h (4 * s + i) (by omega) (by omega), Bool.and_false]
    · rw [decide_eq_false hi, Bool.false_and]
/-- s: the suit led, 4 before a card is played -/
def lts (fo tr s x H : Nat) : Bool := decide (4 ≤ s ∨ fo = 1 ∨ x / 4 = s) || (decide (sm H s = 0) && decide (fo ≠ 2 ∨ 4 ≤ tr ∨ x / 4 = tr ∨ sm H tr = 0))
def lwm (fo tr s H : Nat) : Nat := if 4 ≤ s ∨ fo = 1 then H else if sm H s ≠ 0 then sm H s else if fo = 2 ∧ tr < 4 ∧ sm H tr ≠ 0 then sm H tr else H
theorem lwm_bit {fo tr s H x : Nat} (hx : x < 16) : (lwm fo tr s H).testBit x = (H.testBit x && lts fo tr s x H) := by
  unfold lwm lts
  by_cases h1 : 4 ≤ s ∨ fo = 1
  · rw [if_pos h1, decide_eq_true (show 4 ≤ s ∨ fo = 1 ∨ x / 4 = s by omega), Bool.true_or, Bool.and_true]
  rw [if_neg h1]
  by_cases h2 : sm H s = 0
  · rw [if_neg (fun z => z h2), decide_eq_true h2, Bool.true_and]
    cases hb : H.testBit x with
    | false =>
      split
      · rename_i z
        rw [sm_bit z.2.1 hx, hb]; rfl
      · rw [hb]; rfl
    | true =>
      have h3 : ¬ x / 4 = s := fun z => by
        have := (sm_0 (by omega)).mp h2 x hx z
        rw [hb] at this
        cases this
      rw [decide_eq_false (show ¬ (4 ≤ s ∨ fo = 1 ∨ x / 4 = s) by omega), Bool.false_or, Bool.true_and]
      by_cases h4 : fo = 2 ∧ tr < 4 ∧ sm H tr ≠ 0
      · rw [if_pos h4, sm_bit h4.2.1 hx, hb, Bool.true_and]
        by_cases h5 : x / 4 = tr
        · rw [decide_eq_true h5, decide_eq_true (by omega)]
        · rw [decide_eq_false h5, decide_eq_false (by omega)]
      · rw [if_neg h4, hb, decide_eq_true]
        by_cases h5 : fo = 2
        · by_cases h6 : tr < 4
          · exact Or.inr (Or.inr (Or.inr (Classical.byContradiction fun z => h4 ⟨h5, h6, z⟩)))
          · exact Or.inr (Or.inl (by omega))
        · exact Or.inl h5
  · rw [if_pos h2, sm_bit (by omega) hx, decide_eq_false h2, Bool.false_and, Bool.or_false]
    congr 1
    by_cases h5 : x / 4 = s
    · rw [decide_eq_true h5, decide_eq_true (by omega)]
    · rw [decide_eq_false h5, decide_eq_false (by omega)]
theorem lwm_lt {fo tr s H : Nat} (hH : H < 65536) : lwm fo tr s H < 65536 := by
  unfold lwm
  split
  · exact hH
  · split
    · exact Nat.lt_of_le_of_lt Nat.and_le_left hH
    · split
      · exact Nat.lt_of_le_of_lt Nat.and_le_left hH
      · exact hH
/-- a code of a trick so far with its suit -/
def sc (so : Int32) (s : Nat) : Prop := (so = mI 1 ∧ s = 4) ∨ ∃ c, so = nI c ∧ c < 256 ∧ c % 4 = s
theorem sc_jo {n tr L j : Nat} {f : Nat → Nat} (hn : 0 < n) (hn4 : n ≤ 4) (hf : ∀ i, i < j → f i < 16) : sc (jo n tr L f j) (if j = 0 then 4 else f 0 / 4) := by
  cases j with
  | zero => exact Or.inl ⟨rfl, rfl⟩
  | succ j =>
    refine Or.inr ⟨jc n tr L f j, rfl, jc_lt hn hn4 fun i hi => hf i (by omega), ?_⟩
    rw [if_neg (by omega)]
    have := hf 0 (by omega)
    unfold jc
    omega
theorem ga_lets_sp {n g x H fo tr s : Nat} {so : Int32} {m : rn_Mem} (hx : x < 16) (hH : H < 65536) (hfo : fo ≤ 2) (hs : sc so s) (h4 : m.1 g 4 = cT tr) (h5 : m.1 g 5 = nI fo) : ga_lets n g (nI x) so (nI H) m = some (if lts fo tr s x H = true then 1 else 0, m) := by
  unfold ga_lets ga_suitOf lts
  simp only [Option.bind_some]
  rw [h4, h5, shr_2 (by omega)]
  rcases hs with ⟨rfl, rfl⟩ | ⟨c, rfl, hc, hcs⟩
  · rw [if_pos (by decide), if_pos]
    rw [decide_eq_true (by omega)]
    rfl
  have hs4 : s < 4 := by omega
  rw [if_neg (by rw [k0, nI_ltI (by omega) (by omega)]; omega), and_3 (by omega), hcs]
  by_cases q1 : fo = 1
  · rw [if_pos (by rw [q1]; rfl), if_pos (by rw [decide_eq_true (by omega)]; rfl)]
  rw [if_neg (by rw [k1, nI_eq (by omega) (by omega)]; exact q1)]
  by_cases q2 : x / 4 = s
  · rw [if_pos (by rw [q2]), if_pos (by rw [decide_eq_true (by omega)]; rfl)]
  rw [if_neg (by rw [nI_eq (by omega) (by omega)]; exact q2), decide_eq_false (show ¬ (4 ≤ s ∨ fo = 1 ∨ x / 4 = s) by omega), Bool.false_or]
  have hq : ∀ u, u < 4 → (nI H >>> (((4 : Int32) * nI u) &&& 31)) &&& 15 = nI (H / 2 ^ (4 * u) % 16) := by
    intro u hu
    have := Nat.div_le_self H (2 ^ (4 * u))
    rw [k4, pk_mul, shr_n (by omega) (by omega), and_15 (by omega)]
  have hz : ∀ u, u < 4 → (nI (H / 2 ^ (4 * u) % 16) = 0 ↔ sm H u = 0) := by
    intro u hu
    have := Nat.mod_lt (H / 2 ^ (4 * u)) (show 16 > 0 by decide)
    rw [k0, nI_eq (by omega) (by omega)]
    exact hs_0 hu
  rw [hq s hs4]
  by_cases q3 : sm H s = 0
  · rw [if_pos ((hz s hs4).mpr q3), decide_eq_true q3, Bool.true_and]
    by_cases q4 : fo = 2
    · rw [if_pos (by rw [q4]; rfl)]
      by_cases q5 : 4 ≤ tr
      · rw [if_pos (cT_lt.mpr q5), if_pos (by exact decide_eq_true (by omega))]
      · have hcT : cT tr = nI tr := by unfold cT; rw [if_pos (by omega)]
        rw [if_neg (mt cT_lt.mp q5), hcT]
        by_cases q6 : x / 4 = tr
        · rw [if_pos (by rw [q6]), if_pos (by exact decide_eq_true (by omega))]
        · rw [if_neg (by rw [nI_eq (by omega) (by omega)]; exact q6), hq tr (by omega)]
          by_cases q7 : sm H tr = 0
          · rw [if_pos ((hz tr (by omega)).mpr q7), if_pos (by exact decide_eq_true (by omega))]
          · rw [if_neg (mt (hz tr (by omega)).mp q7), if_neg (by simp only [decide_eq_true_eq]; omega)]
    · rw [if_neg (by rw [k2, nI_eq (by omega) (by omega)]; exact q4), if_pos (by exact decide_eq_true (by omega))]
  · rw [if_neg (mt (hz s hs4).mp q3), decide_eq_false q3, Bool.false_and, if_neg (by decide)]
/-- the first card of the trick, none, with its suit -/
def fc (x : Int32) (s : Nat) : Prop := (x = mI 4 ∧ s = 4) ∨ ∃ y, x = nI y ∧ y < 16 ∧ y / 4 = s
theorem mo_lawful_sp {n H fo tr s : Nat} {x : Int32} {m : rn_Mem} (hH : H < 65536) (hfo : fo ≤ 2) (hs : fc x s) (h4 : m.1 116 4 = zT tr) (h5 : m.1 116 5 = nI fo) : mo_lawful n (nI H) x m = some (nI (lwm fo tr s H), m) := by
  unfold mo_lawful mo_suitOf lwm
  simp only [Option.bind_some]
  rw [h4, h5]
  rcases hs with ⟨rfl, rfl⟩ | ⟨y, rfl, hy, hys⟩
  · rw [if_pos (by decide), if_pos (by omega)]
  have hs4 : s < 4 := by omega
  rw [if_neg (by rw [k0, nI_ltI (by omega) (by omega)]; omega)]
  by_cases q1 : fo = 1
  · rw [if_pos (by rw [q1]; rfl), if_pos (by omega)]
  have hq : ∀ u, u < 4 → nI H &&& ((15 : Int32) <<< (((4 : Int32) * nI u) &&& 31)) = nI (sm H u) := by
    intro u hu
    have := f15_lt u hu
    rw [k4, pk_mul, k15, shl_n (by omega) (by omega), fa_and]
    rfl
  have hz : ∀ u, u < 4 → (nI (sm H u) = 0 ↔ sm H u = 0) := by
    intro u hu
    have := sm_lt (H := H) hu
    rw [k0, nI_eq (by omega) (by omega)]
  rw [if_neg (by rw [k1, nI_eq (by omega) (by omega)]; exact q1), if_neg (show ¬ (4 ≤ s ∨ fo = 1) by omega), show (nI y / (4 : Int32)) = nI s by rw [k4, pk_div (by omega) (by omega) (by omega), hys], hq s hs4]
  by_cases q3 : sm H s = 0
  · rw [if_pos ((hz s hs4).mpr q3), if_neg (show ¬ sm H s ≠ 0 from fun z => z q3)]
    by_cases q5 : 4 ≤ tr
    · rw [if_pos (zT_lt.mpr q5), if_neg (show ¬ (fo = 2 ∧ tr < 4 ∧ sm H tr ≠ 0) by omega)]
      simp only [Option.bind_some, if_true]
      split <;> rfl
    · have hcT : zT tr = nI tr := by unfold zT; rw [if_pos (by omega)]
      rw [if_neg (mt zT_lt.mp q5), hcT, hq tr (by omega)]
      simp only [Option.bind_some]
      by_cases q4 : fo = 2
      · rw [if_pos (by rw [q4]; rfl)]
        by_cases q7 : sm H tr = 0
        · rw [if_pos ((hz tr (by omega)).mpr q7), if_neg (fun z => z.2.2 q7)]
        · rw [if_neg (mt (hz tr (by omega)).mp q7), if_pos ⟨q4, by omega, q7⟩]
      · rw [if_neg (by rw [k2, nI_eq (by omega) (by omega)]; exact q4), if_neg (fun z => q4 z.1)]
  · rw [if_neg (mt (hz s hs4).mp q3), if_pos q3]
/-- what a chair plays at r places, from i on -/
def hdm (p f : Nat → Nat) (c : Nat) : Nat → Nat → Nat
  | 0, _ => 0
  | r + 1, i => (if p i = c then 2 ^ f i else 0) ||| hdm p f c r (i + 1)
theorem hdm_bit {p f : Nat → Nat} {c x : Nat} : ∀ {r i : Nat}, (hdm p f c r i).testBit x = true ↔ ∃ j, i ≤ j ∧ j < i + r ∧ p j = c ∧ f j = x
  | 0, i => by
    constructor
    · intro h
      rw [hdm, Nat.zero_testBit] at h
      cases h
    · rintro ⟨j, h1, h2, _⟩
      omega
  | r + 1, i => by
    rw [hdm, Nat.testBit_or, Bool.or_eq_true, hdm_bit (r := r)]
    constructor
    · rintro (h | ⟨j, h1, h2, h3⟩)
      · split at h
        · rw [Nat.testBit_two_pow] at h
          exact ⟨i, by omega, by omega, by assumption, of_decide_eq_true h⟩
        · rw [Nat.zero_testBit] at h
          cases h
      · exact ⟨j, by omega, by omega, h3⟩
    · rintro ⟨j, h1, h2, h3, h4⟩
      by_cases q : j = i
      · subst q
        left
        rw [if_pos h3, h4, Nat.testBit_two_pow_self]
      · exact Or.inr ⟨j, by omega, by omega, h3, h4⟩
theorem hdm_lt {p f : Nat → Nat} {c : Nat} : ∀ {r i : Nat}, (∀ j, i ≤ j → j < i + r → f j < 16) → hdm p f c r i < 2 ^ 16
  | 0, i, _ => by show 0 < 2 ^ 16; decide
  | r + 1, i, h => by
    rw [hdm]
    refine or_lt ?_ (hdm_lt fun j h1 h2 => h j (by omega) (by omega))
    split
    · exact pw_lt (h i (by omega) (by omega))
    · decide
theorem deal_l3_sp {q1 q2 : Nat} {a3 : Int32} : ∀ (r k nf : Nat) (m : rn_Mem), k + r = 4 → r < nf → (∀ i, i < k → m.1 103 i = 0) → ∃ m2, ju_deal_l3 q1 q2 a3 nf (nI k) m = some m2 ∧ (∀ i, i < 4 → m2.1 103 i = 0) ∧ Kr (fun p => p = 103) m m2 := by
  intro r
  induction r with
  | zero =>
    intro k nf m e hnf h
    obtain ⟨nf, rfl⟩ : ∃ e, nf = e + 1 := ⟨nf - 1, by omega⟩
    obtain rfl : k = 4 := by omega
    refine ⟨m, ?_, h, Kr.rf⟩
    unfold ju_deal_l3
    rw [if_neg (by decide)]
  | succ r ih =>
    intro k nf m e hnf h
    obtain ⟨nf, rfl⟩ : ∃ e, nf = e + 1 := ⟨nf - 1, by omega⟩
    obtain ⟨m2, b1, b2, b3⟩ := ih (k + 1) nf (rm_i m 103 k 0) (by omega) (by omega) (by
      intro i hi
      rw [mi_get]
      by_cases g : i = k
      · rw [if_pos ⟨rfl, g⟩]
      · rw [if_neg (fun z => g z.2)]
        exact h i (by omega))
    refine ⟨m2, ?_, b2, Kr.tr (Kr.rf.sti (by exact rfl)) b3⟩
    unfold ju_deal_l3
    rw [if_pos (by rw [k4, nI_ltI (by omega) (by omega)]; omega), if_pos ((in_n (by omega)).mpr (by omega)), nI_n (by omega), nI_1]
    exact b1
theorem deal_l26_sp {q1 q2 n t : Nat} {p f : Nat → Nat} (hs : n * t ≤ 12) (h103 : q1 ≠ 103 ∧ q2 + 1 ≠ 103 ∧ q2 + 2 ≠ 103) (hp : ∀ i, i < n * t → p i < 4) (hf : ∀ i, i < n * t → f i < 16) (T : Nat → Nat) : ∀ (r i nf : Nat) (m : rn_Mem), i + r = n * t → r < nf → m.1 q1 1 = nI n → m.1 q1 2 = nI t → (∀ i, i < n * t → m.1 (q2 + 1) i = nI (f i) ∧ m.1 (q2 + 2) i = nI (p i)) → (∀ c, c < 4 → ∃ h, m.1 103 c = nI h ∧ h < 65536 ∧ h ||| hdm p f c r i = T c) → ∃ m2, ju_deal_l26 q1 q2 nf (nI i) m = some m2 ∧ (∀ c, c < 4 → m2.1 103 c = nI (T c)) ∧ Kr (fun p => p = 103) m m2 := by
  intro r
  induction r with
  | zero =>
    intro i nf m e hnf h1 h2 h3 h4
    obtain ⟨nf, rfl⟩ : ∃ e, nf = e + 1 := ⟨nf - 1, by omega⟩
    refine ⟨m, ?_, fun c hc => ?_, Kr.rf⟩
    · unfold ju_deal_l26 ga_cards
      simp only [Option.bind_some]
      rw [h1, h2, pk_mul, if_neg (by rw [nI_ltI (by omega) (by omega)]; omega)]
    · obtain ⟨h, g1, g2, g3⟩ := h4 c hc
      rw [g1, ← g3, hdm, Nat.or_zero]
  | succ r ih =>
    intro i nf m e hnf h1 h2 h3 h4
    obtain ⟨nf, rfl⟩ : ∃ e, nf = e + 1 := ⟨nf - 1, by omega⟩
    have hpi := hp i (by omega)
    have hfi := hf i (by omega)
    obtain ⟨e3, e4⟩ := h3 i (by omega)
    obtain ⟨h, g1, g2, g3⟩ := h4 (p i) hpi
    have st : ju_deal_l26 q1 q2 (nf + 1) (nI i) m = ju_deal_l26 q1 q2 nf (nI (i + 1)) (rm_i m 103 (p i) (nI (h ||| 2 ^ f i))) := by
      rw [ju_deal_l26]
      unfold ga_cards
      simp only [Option.bind_some]
      rw [h1, h2, pk_mul, if_pos (by rw [nI_ltI (by omega) (by omega)]; omega), if_pos ((in_n (by omega)).mpr (by omega)), nI_n (by omega), e4, e3, if_pos ((in_n (by omega)).mpr (by omega)), if_pos ((in_n (by omega)).mpr (by omega)), if_pos ((in_n (by omega)).mpr (by omega)), nI_n (by omega), g1, shl_1 (by omega), fa_or, nI_1]
    have ko : ∀ q, q ≠ 103 → (rm_i m 103 (p i) (nI (h ||| 2 ^ f i))).1 q = m.1 q := by
      intro q hq
      funext j
      rw [mi_get, if_neg (fun z => hq z.1)]
    obtain ⟨m2, b1, b2, b3⟩ := ih (i + 1) nf (rm_i m 103 (p i) (nI (h ||| 2 ^ f i))) (by omega) (by omega) (by rw [ko _ h103.1]; exact h1) (by rw [ko _ h103.1]; exact h2) (by rw [ko _ h103.2.1, ko _ h103.2.2]; exact h3) (by
      intro c hc
      rw [mi_get]
      by_cases g : c = p i
      · subst g
        refine ⟨h ||| 2 ^ f i, by rw [if_pos ⟨rfl, rfl⟩], or_lt (k := 16) g2 (pw_lt hfi), ?_⟩
        rw [← g3, hdm, if_pos rfl, Nat.or_assoc]
      · obtain ⟨h', q1, q2, q3⟩ := h4 c hc
        refine ⟨h', by rw [if_neg (fun z => g z.2)]; exact q1, q2, ?_⟩
        rw [← q3, hdm, if_neg (fun z => g z.symm), Nat.zero_or])
    exact ⟨m2, by rw [st]; exact b1, b2, Kr.tr (Kr.rf.sti (by exact rfl)) b3⟩
theorem deal_sp {q1 q2 n t i nf : Nat} {p f : Nat → Nat} {m : rn_Mem} (hnf : 20 < nf) (hs : n * t ≤ 12) (hi : i ≤ n * t) (h103 : q1 ≠ 103 ∧ q2 + 1 ≠ 103 ∧ q2 + 2 ≠ 103) (hp : ∀ i, i < n * t → p i < 4) (hf : ∀ i, i < n * t → f i < 16) (h1 : m.1 q1 1 = nI n) (h2 : m.1 q1 2 = nI t) (h3 : ∀ i, i < n * t → m.1 (q2 + 1) i = nI (f i) ∧ m.1 (q2 + 2) i = nI (p i)) : ∃ m2, ju_deal nf q1 q2 (nI i) m = some m2 ∧ (∀ c, c < 4 → m2.1 103 c = nI (hdm p f c (n * t - i) i)) ∧ Kr (fun p => p = 103) m m2 := by
  obtain ⟨m1, a1, a2, a3⟩ := deal_l3_sp (q1 := q1) (q2 := q2) (a3 := nI i) 4 0 nf m (by omega) (by omega) (by intro i hi; omega)
  obtain ⟨m2, b1, b2, b3⟩ := deal_l26_sp hs h103 hp hf (fun c => hdm p f c (n * t - i) i) (n * t - i) i nf m1 (by omega) (by omega) (by rw [(a3 q1 h103.1).1]; exact h1) (by rw [(a3 q1 h103.1).1]; exact h2) (by rw [(a3 _ h103.2.1).1, (a3 _ h103.2.2).1]; exact h3) (by
    intro c hc
    exact ⟨0, a2 c hc, by decide, Nat.zero_or _⟩)
  refine ⟨m2, ?_, b2, a3.tr b3⟩
  unfold ju_deal
  rw [k0, a1]
  simp only [Option.bind_some]
  rw [b1]
  rfl
theorem soFar_l12_sp {q0 q1 n tr L b P : Nat} {p f : Nat → Nat} {m : rn_Mem} (hn : 2 ≤ n) (hn4 : n ≤ 4) (hP : P ≤ 12) (h4 : m.1 q0 4 = cT tr) (hp : ∀ j, b + j < P → p (b + j) = (L + j) % n) (hf : ∀ i, i < P → f i < 16) (h3 : ∀ i, i < P → m.1 (q1 + 1) i = nI (f i) ∧ m.1 (q1 + 2) i = nI (p i)) : ∀ (r j nf : Nat), b + j + r = P → r < nf → ju_soFar_l12 q0 q1 (nI P) nf (jo n tr L (fun j => f (b + j)) j) (nI (b + j)) m = some (jo n tr L (fun j => f (b + j)) (j + r), m) := by
  intro r
  induction r with
  | zero =>
    intro j nf e hnf
    obtain ⟨nf, rfl⟩ : ∃ e, nf = e + 1 := ⟨nf - 1, by omega⟩
    unfold ju_soFar_l12
    rw [if_neg (by rw [nI_ltI (by omega) (by omega)]; omega)]
    rfl
  | succ r ih =>
    intro j nf e hnf
    obtain ⟨nf, rfl⟩ : ∃ e, nf = e + 1 := ⟨nf - 1, by omega⟩
    obtain ⟨e3, e4⟩ := h3 (b + j) (by omega)
    have h := ih (j + 1) nf (by omega) (by omega)
    unfold ju_soFar_l12
    rw [if_pos (by rw [nI_ltI (by omega) (by omega)]; omega), if_pos ((in_n (by omega)).mpr (by omega)), if_pos ((in_n (by omega)).mpr (by omega)), nI_n (by omega), e3, e4, hp j (by omega), ga_join_sp (f := fun j => f (b + j)) (by omega) hn4 (fun i hi => hf _ (by omega)) h4]
    simp only [Option.bind_some, nI_1]
    rw [show j + (r + 1) = j + 1 + r by omega]
    exact h
theorem soFar_sp {q0 q1 n tr P nf : Nat} {p f L : Nat → Nat} {m : rn_Mem} (hnf : 20 < nf) (hn : 2 ≤ n) (hn4 : n ≤ 4) (hP : P ≤ 12) (h1 : m.1 q0 1 = nI n) (h4 : m.1 q0 4 = cT tr) (hp : ∀ i, i < P → p i = (L (i / n) + i % n) % n) (hf : ∀ i, i < P → f i < 16) (h3 : ∀ i, i < P → m.1 (q1 + 1) i = nI (f i) ∧ m.1 (q1 + 2) i = nI (p i)) : ju_soFar nf q0 q1 (nI P) m = some (jo n tr (L (P / n)) (fun j => f (n * (P / n) + j)) (P % n), m) := by
  have hd := Nat.div_add_mod P n
  have hm := Nat.mod_lt P (show n > 0 by omega)
  have h := soFar_l12_sp (q0 := q0) (q1 := q1) (b := n * (P / n)) (L := L (P / n)) hn hn4 hP h4 (fun j hj => by
    have e1 : (n * (P / n) + j) / n = P / n := by
      rw [Nat.mul_add_div (by omega), Nat.div_eq_of_lt (show j < n by omega), Nat.add_zero]
    have e2 : (n * (P / n) + j) % n = j := by
      rw [Nat.mul_add_mod, Nat.mod_eq_of_lt (by omega)]
    rw [hp _ hj, e1, e2]) hf h3 (P % n) 0 nf (by omega) (by omega)
  rw [Nat.add_zero, Nat.zero_add] at h
  unfold ju_soFar
  rw [h1, if_pos (nI_ne0 (by omega) (by omega)), rem_n (by omega) (by omega) (by omega), pk_sub (by omega), show P - P % n = n * (P / n) by omega]
  simp only [Option.bind_some]
  rw [mi1]
  rw [show jo n tr (L (P / n)) (fun j => f (n * (P / n) + j)) 0 = mI 1 from rfl] at h
  rw [h]
  rfl
theorem handAt_l6_sp {q n t tr ls b c : Nat} {f : Nat → Nat} {m : rn_Mem} (hn : 2 ≤ n) (hn4 : n ≤ 4) (ht : t ≤ 4) (hs : n * t ≤ 12) (hb : b < n) (hc4 : c < 4) (hal : n * t ≤ rn_al q) (h1 : m.1 116 1 = nI n) (h2 : m.1 116 2 = nI t) (hL : ∀ k, k < t → m.1 139 k = nI (rl n tr ls b f k)) (hf : ∀ i, i < n * t → f i < 16) (hm : ∀ i, i < n * t → m.1 q i = nI (f i)) : ∀ (r i A nf : Nat), i + r = n * t → r < nf → mo_handAt_l6 q (nI c) nf (nI A) (nI i) m = some (nI (A ||| hdm (rpa n tr ls b f) f c r i), m) := by
  intro r
  induction r with
  | zero =>
    intro i A nf e hnf
    obtain ⟨nf, rfl⟩ : ∃ e, nf = e + 1 := ⟨nf - 1, by omega⟩
    unfold mo_handAt_l6 mo_size
    simp only [Option.bind_some]
    rw [h1, h2, pk_mul, if_neg (by rw [nI_ltI (by omega) (by omega)]; omega), hdm, Nat.or_zero]
  | succ r ih =>
    intro i A nf e hnf
    obtain ⟨nf, rfl⟩ : ∃ e, nf = e + 1 := ⟨nf - 1, by omega⟩
    have hk : i / n < t := by rw [Nat.div_lt_iff_lt_mul (by omega), Nat.mul_comm]; omega
    have hp := rpa_lt (tr := tr) (ls := ls) (b := b) (k := i) (f := f) (show 0 < n by omega)
    have hfi := hf i (by omega)
    unfold mo_handAt_l6 mo_size
    simp only [Option.bind_some]
    rw [h1, h2, pk_mul, if_pos (by rw [nI_ltI (by omega) (by omega)]; omega), playerAt_sp hn hn4 hb (by omega) (by omega) h1 (hL _ hk)]
    simp only [Option.bind_some]
    rw [hdm]
    by_cases g : rpa n tr ls b f i = c
    · rw [if_pos (by rw [g]), if_pos ((in_n (by omega)).mpr (by omega)), nI_n (by omega), hm i (by omega), shl_1 (by omega), if_pos g]
      simp only [Option.bind_some, nI_1, fa_or]
      rw [ih (i + 1) _ nf (by omega) (by omega), Nat.or_assoc]
    · rw [if_neg (by rw [nI_eq (by omega) (by omega)]; exact g), if_neg g]
      simp only [Option.bind_some, nI_1, k0, fa_or]
      rw [ih (i + 1) _ nf (by omega) (by omega), Nat.or_assoc]
theorem handAt_sp {q n t tr ls b c i nf : Nat} {f : Nat → Nat} {m : rn_Mem} (hnf : 20 < nf) (hn : 2 ≤ n) (hn4 : n ≤ 4) (ht : t ≤ 4) (hs : n * t ≤ 12) (hb : b < n) (hc4 : c < 4) (hal : n * t ≤ rn_al q) (hi : i ≤ n * t) (h1 : m.1 116 1 = nI n) (h2 : m.1 116 2 = nI t) (hL : ∀ k, k < t → m.1 139 k = nI (rl n tr ls b f k)) (hf : ∀ i, i < n * t → f i < 16) (hm : ∀ i, i < n * t → m.1 q i = nI (f i)) : mo_handAt nf q (nI c) (nI i) m = some (nI (hdm (rpa n tr ls b f) f c (n * t - i) i), m) := by
  unfold mo_handAt
  rw [k0, handAt_l6_sp hn hn4 ht hs hb hc4 hal h1 h2 hL hf hm (n * t - i) i 0 nf (by omega) (by omega), Nat.zero_or]
  rfl
