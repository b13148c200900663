/-! THE CALLS OF THE SEARCH: plays, sure, trick, first -/
theorem S_plays {S V : Nat → Nat} {n : Nat} {m : rn_Mem} (hn : 1000000 ≤ n) (hw : WF S) (hc : cS3 S V 3 m) (hC : CH S m) : ∃ (r : Int64) (m1 : rn_Mem), lt_plays n m = some (r, m1) ∧ CH S m1 ∧ Kcs m m1 ∧ ∀ m' : rn_Mem, zO3 S (m'.1 116) → ∃ m2, mo_plays n m' = some (r, m2) ∧ Kpm m' m2 := by
  have c5 : m.1 5 0 = nI (S 9) := hc.2.1.1
  rcases S9_01 hw with h9 | h9
  · refine ⟨-2, m, by rw [lt_plays, if_pos (by rw [c5, h9]; rfl)], hC, Kcs.rf, fun m' hz => ⟨m', ?_, Kpm.rf⟩⟩
    rw [mo_plays, if_pos (by rw [zO3_at hz (by omega) (by omega) (by omega) (by omega), h9]; rfl)]
  · obtain ⟨h0, wg, wt, wc⟩ := WF_9 hw h9
    obtain ⟨m1, p1, p2, p3⟩ := plays_c (nf := n) wg wt wc h0 h9 (by omega) hc hC
    refine ⟨_, m1, p1, p2, p3, fun m' hz => ?_⟩
    obtain ⟨m2, m3, b1, b2, b3, b4, b5, b6⟩ := (both_A hn hw h9 hc hC).2 m' hz
    refine ⟨m3, ?_, b3⟩
    rw [mo_plays, if_neg (by rw [zO3_at hz (by omega) (by omega) (by omega) (by omega), h9]; decide), b1, Option.bind_some, b2, Option.bind_some, b5.1]
def lgv (v : Nat) : Nat := if v = 1 then 0 else if v = 2 then 1 else if v = 4 then 2 else if v = 8 then 3 else 4
theorem lgv_iff : ∀ v, v < 16 → ∀ c, c < 4 → (v = 2 ^ c ↔ lgv v = c) := by decide
theorem lgv_le : ∀ v, v < 16 → lgv v ≤ 4 := by decide
theorem sure_c {v : Nat} (hv : v < 16) : ∀ (d c n : Nat) (m : rn_Mem), c + d = 4 → d < n → (∀ c', c' < c → lgv v ≠ c') → lt_sure_l28 (nI v) n (nI c) m = some (if lgv v < 4 then .inl (nI (lgv v), m) else .inr m) := by
  intro d
  induction d with
  | zero =>
    intro c n m e hn h
    obtain ⟨n, rfl⟩ : ∃ k, n = k + 1 := ⟨n - 1, by omega⟩
    obtain rfl : c = 4 := by omega
    have := lgv_le v hv
    rw [lt_sure_l28, if_neg (by decide), if_neg (fun t => h _ t rfl)]
  | succ d ih =>
    intro c n m e hn h
    obtain ⟨n, rfl⟩ : ∃ k, n = k + 1 := ⟨n - 1, by omega⟩
    have hp : 2 ^ c < 2 ^ 4 := pw_lt (by omega)
    rw [lt_sure_l28, show (4 : Int32) = nI 4 from rfl, if_pos (by rw [nI_ltI (by omega) (by omega)]; omega), shl_1 (by omega)]
    by_cases y : lgv v = c
    · rw [if_pos (by rw [(lgv_iff v hv c (by omega)).mpr y]), y, if_pos (show c < 4 by omega)]
    · rw [if_neg (by rw [nI_eq (by omega) (by omega)]; exact fun t => y ((lgv_iff v hv c (by omega)).mp t)), nI_1, Option.bind_some]
      exact ih (c + 1) n m (by omega) (by omega) (fun c' hc' => by
        by_cases z : c' = c
        · rw [z]; exact y
        · exact h c' (by omega))
theorem sure_m {v : Nat} {S : Nat → Nat} (hv : v < 16) (wg : WG S) (hb : ∀ i, v.testBit i = true → i < S 1) : ∀ (d c n : Nat) (m : rn_Mem), c + d = S 1 → d < n → m.1 116 1 = nI (S 1) → (∀ c', c' < c → lgv v ≠ c') → mo_sure_l14 (nI v) n (nI c) m = some (if lgv v < 4 then .inl (nI (lgv v), m) else .inr m) := by
  have w2 : S 1 ≤ 4 := wg.2.1
  intro d
  induction d with
  | zero =>
    intro c n m e hn z1 h
    obtain ⟨n, rfl⟩ : ∃ k, n = k + 1 := ⟨n - 1, by omega⟩
    obtain rfl : c = S 1 := by omega
    rw [mo_sure_l14, z1, if_neg (by rw [nI_ltI (by omega) (by omega)]; omega), if_neg (fun t => ?_)]
    have e2 := (lgv_iff v hv (lgv v) t).mpr rfl
    have h3 : v.testBit (lgv v) = true := by
      have := Nat.testBit_two_pow_self (n := lgv v)
      rw [← e2] at this
      exact this
    exact h _ (hb _ h3) rfl
  | succ d ih =>
    intro c n m e hn z1 h
    obtain ⟨n, rfl⟩ : ∃ k, n = k + 1 := ⟨n - 1, by omega⟩
    have hp : 2 ^ c < 2 ^ 4 := pw_lt (by omega)
    rw [mo_sure_l14, z1, if_pos (by rw [nI_ltI (by omega) (by omega)]; omega), shl_1 (by omega)]
    by_cases y : lgv v = c
    · rw [if_pos (by rw [(lgv_iff v hv c (by omega)).mpr y]), y, if_pos (show c < 4 by omega)]
    · rw [if_neg (by rw [nI_eq (by omega) (by omega)]; exact fun t => y ((lgv_iff v hv c (by omega)).mp t)), nI_1, Option.bind_some]
      exact ih (c + 1) n m (by omega) (by omega) z1 (fun c' hc' => by
        by_cases z : c' = c
        · rw [z]; exact y
        · exact h c' (by omega))
theorem ref_3 (n : Nat) (a : Int32) (m : rn_Mem) : ∃ r, lt_refusalOf n a m = some (r, m) ∧ (r = 0 ∨ r < 0) := by
  unfold lt_refusalOf ga_has
  by_cases y1 : a < 0
  · rw [if_pos y1]; exact ⟨_, rfl, Or.inr (by decide)⟩
  rw [if_neg y1]
  by_cases y2 : a < 16
  · rw [if_pos y2]
    by_cases y3 : m.1 5 0 = 0
    · rw [if_pos y3]; exact ⟨_, rfl, Or.inr (by decide)⟩
    · rw [if_neg y3, if_neg y1, if_pos y2]
      by_cases y4 : (((m.1 4 3) >>> (a &&& 31)) &&& 1) = 0
      · rw [if_pos y4]; exact ⟨_, rfl, Or.inr (by decide)⟩
      · rw [if_neg y4]; exact ⟨_, rfl, Or.inl rfl⟩
  · rw [if_neg y2]; exact ⟨_, rfl, Or.inr (by decide)⟩
theorem S_sure {S V : Nat → Nat} {n : Nat} {m : rn_Mem} (hn : 1000000 ≤ n) (hw : WF S) (hc : cS3 S V 3 m) (hC : CH S m) (a : Int32) : SC S (lt_sure n a) (mo_sure n a) m := by
  obtain ⟨⟨r, m1, h1, h2, h3, h4⟩, h5⟩ := S_may hn hw hc hC a
  obtain ⟨r2, q1, q2⟩ := ref_3 n a m
  by_cases y : r2 = 0
  case neg =>
    have q3 : r2 < 0 := q2.resolve_left y
    have e : lt_may n a m = some (r2, m) := by
      unfold lt_may
      rw [q1, Option.bind_some]
      try simp only []
      rw [if_neg y]
    rw [e] at h1
    injection h1 with h1
    injection h1 with e1 e2
    subst e1 e2
    refine ⟨r2, m, ?_, hC, Kcs.rf, fun m' hz => ?_⟩
    · unfold lt_sure
      rw [q1, Option.bind_some]
      try simp only []
      rw [if_neg y]
    · obtain ⟨m2, k1, k2⟩ := h4 m' hz
      refine ⟨m2, ?_, k2⟩
      unfold mo_sure
      rw [k1, Option.bind_some]
      try simp only []
      rw [if_pos q3]
  subst y
  obtain ⟨m5, s1⟩ : ∃ m5, lt_survey n m = some m5 := by
    cases e : lt_survey n m with
    | none =>
      unfold lt_may at h1
      rw [q1, Option.bind_some] at h1
      simp only [if_true, e] at h1
      cases h1
    | some m5 => exact ⟨m5, rfl⟩
  have e : lt_may n a m = some ((((m5.2 51 14) >>> (((4 : Int32) * a).toInt64 &&& 63)).toInt32) &&& 15, m5) := by
    unfold lt_may
    rw [q1, Option.bind_some]
    try simp only []
    rw [if_pos trivial, s1, Option.bind_some, se_holdersOf, Option.bind_some]
  have hge : ¬ ((((m5.2 51 14) >>> (((4 : Int32) * a).toInt64 &&& 63)).toInt32) &&& 15) < 0 := by
    rw [pk_and _ 4 (by decide), k0, nI_ltI (by omega) (by omega)]
    omega
  have h1' := h1
  rw [e] at h1'
  injection h1' with h1'
  injection h1' with e1 e2
  have h6 := h5 r m1 h1
  rw [← e1] at h6
  obtain ⟨v, v1, v2, v3⟩ := h6.resolve_left hge
  rw [e1] at v3
  have hS9 : S 9 = 1 := by
    rcases S9_01 hw with h | h
    · refine absurd hge (fun _ => ?_)
      have c5 : m.1 5 0 = nI (S 9) := hc.2.1.1
      unfold lt_refusalOf at q1
      rw [c5, h] at q1
      by_cases z1 : a < 0
      · rw [if_pos z1] at q1
        injection q1 with q1
        injection q1 with q1
        exact absurd q1 (by decide)
      · rw [if_neg z1] at q1
        by_cases z2 : a < 16
        · rw [if_pos z2, if_pos (show nI 0 = 0 from rfl)] at q1
          injection q1 with q1
          injection q1 with q1
          exact absurd q1 (by decide)
        · rw [if_neg z2] at q1
          injection q1 with q1
          injection q1 with q1
          exact absurd q1 (by decide)
    · exact h
  obtain ⟨h0, wg, wt, wc⟩ := WF_9 hw hS9
  have hE : ∀ m0 : rn_Mem, ((some (if lgv v < 4 then Sum.inl (nI (lgv v), m0) else Sum.inr m0) : Option ((Int32 × rn_Mem) ⊕ rn_Mem)).bind fun q => match q with | .inl o => some o | .inr m13 => some ((-4 : Int32), m13)) = some (if lgv v < 4 then nI (lgv v) else -4, m0) := by
    intro m0
    by_cases z : lgv v < 4
    · rw [if_pos z, if_pos z]; rfl
    · rw [if_neg z, if_neg z]; rfl
  refine ⟨if lgv v < 4 then nI (lgv v) else -4, m1, ?_, h2, h3, fun m' hz => ?_⟩
  · unfold lt_sure
    rw [q1, Option.bind_some]
    try simp only []
    rw [if_pos trivial, s1, Option.bind_some, se_holdersOf, Option.bind_some]
    try simp only []
    rw [e1, v3, show lt_sure_l28 (nI v) n 0 m5 = _ from sure_c v1 4 0 n m5 (by omega) (by omega) (fun c' hc' => absurd hc' (Nat.not_lt_zero c')), ← e2]
    exact hE m5
  · obtain ⟨m2, k1, k2⟩ := h4 m' hz
    refine ⟨m2, ?_, k2⟩
    unfold mo_sure
    rw [k1, Option.bind_some]
    try simp only []
    rw [v3, if_neg (by rw [k0, nI_ltI (by omega) (by omega)]; omega), show mo_sure_l14 (nI v) n 0 m2 = _ from sure_m v1 wg v2 (S 1) 0 n m2 (by omega) (by have := wg.2.1; omega) (zO3_at (Kpm_z k2 hz) (by omega) (by omega) (by omega) (by omega)) (fun c' hc' => absurd hc' (Nat.not_lt_zero c'))]
    exact hE m2
theorem nib4 {M k : Nat} (hM : M < 2 ^ 31) (hk : k < 8) : (nI M >>> (((4 : Int32) * nI k) &&& 31)) &&& 15 = nI (nb4 M k) := by
  rw [m4k, nib hM hk]
  congr 1
  apply Nat.eq_of_testBit_eq
  intro i
  rw [show (16 : Nat) = 2 ^ 4 from rfl, Nat.testBit_mod_two_pow, Nat.testBit_div_two_pow]
  by_cases y : i < 4
  · rw [decide_eq_true y, Bool.true_and, nb4_bit y]
    congr 1
    omega
  · rw [decide_eq_false y, Bool.false_and]
    exact (bit_high (k := 4) nb4_lt (by omega)).symm
theorem lt_16 {M : Nat} (h : ∀ x, M.testBit x = true → x < 16) : M < 2 ^ 16 := by
  apply Nat.lt_pow_two_of_testBit
  intro i hi
  cases e : M.testBit i with
  | false => rfl
  | true => exact absurd (h i e) (by omega)
theorem S_trick {S V : Nat → Nat} {n : Nat} {m : rn_Mem} (hn : 1000000 ≤ n) (hw : WF S) (hc : cS3 S V 3 m) (hC : CH S m) (a b : Int32) : SC S (lt_trick n a b) (mo_trick n a b) m := by
  have c5 : m.1 5 0 = nI (S 9) := hc.2.1.1
  have hno : ∀ m : rn_Mem, lt_isNoTrick n a m = some (if 0 ≤ a.toInt ∧ a.toInt ≤ 3 then 0 else 1, m) := fun m => lt_isNoChair_eq n a m
  by_cases ha : 0 ≤ a.toInt ∧ a.toInt ≤ 3
  case neg =>
    refine SC_r (-1) hC ?_ fun m' _ => ?_
    · unfold lt_trick
      rw [hno, if_neg ha]
      rfl
    · unfold mo_trick
      rw [mo_in_i n a 0 3 0 3 m' (by decide) (by decide), if_neg ha]
      rfl
  by_cases hb : 0 ≤ b.toInt ∧ b.toInt ≤ 1
  case neg =>
    refine SC_r (-1) hC ?_ fun m' _ => ?_
    · unfold lt_trick
      rw [hno, if_pos ha, Option.bind_some]
      try simp only []
      rw [if_pos trivial]
      simp only [i_lt, t0, t1]
      by_cases q : b.toInt < 0
      · rw [if_pos q]
      · rw [if_neg q, if_pos (by omega)]
    · unfold mo_trick
      rw [mo_in_i n a 0 3 0 3 m' (by decide) (by decide), if_pos ha, Option.bind_some]
      try simp only []
      rw [if_neg (by decide), mo_in_i n b 0 1 0 1 m' (by decide) (by decide), if_neg hb]
      rfl
  obtain ⟨k, hk, rfl⟩ := i_nat (x := a) (k := 4) ha.1 (by omega)
  obtain ⟨j, hj, rfl⟩ := i_nat (x := b) (k := 2) hb.1 (by omega)
  have hL : lt_trick n (nI k) (nI j) m = if m.1 5 0 = 0 then some (-2, m) else if nI k < m.1 4 2 then (lt_survey n m).bind fun m9 => some (((if j = 0 then m9.1 51 15 else m9.1 51 16) >>> (((4 : Int32) * nI k) &&& 31)) &&& 15, m9) else some (-1, m) := by
    unfold lt_trick
    rw [hno, if_pos ha, Option.bind_some]
    try simp only []
    rw [if_pos trivial, if_neg (by rw [i_lt, t0]; omega), if_neg (by rw [i_lt, t1]; omega)]
    by_cases y : j = 0
    · subst y; rfl
    · obtain rfl : j = 1 := by omega
      rfl
  have hM : ∀ m' : rn_Mem, mo_trick n (nI k) (nI j) m' = if m'.1 116 9 = 0 then some (-2, m') else if nI k < m'.1 116 2 then (mo_askAll n m').bind fun m11 => (mo_findPlays n m11).bind fun m13 => some (if j = 0 then m13.1 122 k else m13.1 123 k, m13) else some (-1, m') := by
    intro m'
    unfold mo_trick
    rw [mo_in_i n _ 0 3 0 3 m' (by decide) (by decide), if_pos ha, Option.bind_some]
    try simp only []
    rw [if_neg (by decide), mo_in_i n _ 0 1 0 1 m' (by decide) (by decide), if_pos hb, Option.bind_some]
    try simp only []
    rw [if_neg (by decide)]
    simp only [if_pos (show rn_in (nI k) 4 = true from (in_n (by omega)).mpr hk), nI_n (show k < 2 ^ 31 by omega)]
    by_cases y : j = 0
    · subst y; rfl
    · obtain rfl : j = 1 := by omega
      rfl
  rcases S9_01 hw with h9 | h9
  · refine SC_r (-2) hC ?_ fun m' hz => ?_
    · rw [hL, if_pos (by rw [c5, h9]; rfl)]
    · rw [hM, if_pos (by rw [zO3_at hz (by omega) (by omega) (by omega) (by omega), h9]; rfl)]
  obtain ⟨h0, wg, wt, wc⟩ := WF_9 hw h9
  have w4 : S 2 ≤ 4 := wg.2.2.2.1
  have w2 : S 1 ≤ 4 := wg.2.1
  have w1 : 2 ≤ S 1 := wg.1
  have c2 : m.1 4 2 = nI (S 2) := (hc.1.2 h0).2.1
  rw [c5, if_neg (by rw [h9]; decide), c2] at hL
  by_cases y : k < S 2
  case neg =>
    refine SC_r (-1) hC ?_ fun m' hz => ?_
    · rw [hL, if_neg (by rw [nI_ltI (by omega) (by omega)]; exact y)]
    · rw [hM, if_neg (by rw [zO3_at hz (by omega) (by omega) (by omega) (by omega), h9]; decide), zO3_at hz (k := 2) (by omega) (by omega) (by omega) (by omega), if_neg (by rw [nI_ltI (by omega) (by omega)]; exact y)]
  obtain ⟨⟨m1, p1, p2, p3, p4⟩, hR⟩ := both_A hn hw h9 hc hC
  obtain ⟨v, u, um, a1, a2, a3, a4, a5, a6, a7, a8, hF⟩ := p2
  have hu : uc S < 4 := by have := (wt.2 h9).2.2.2.2; omega
  have b15 : ∀ x, u.2.2.2.1.testBit x = true ↔ ∃ r w q, r < fac (uc S) ∧ GL S (XF S r) w q ∧ ∃ j, j < S 2 ∧ 4 * j + ldQ S (XF S r) w q j = x := fun x => by rw [hF.2.2.2.1 x, GA_e hu]
  have b16 : ∀ x, u.2.2.2.2.testBit x = true ↔ ∃ r w q, r < fac (uc S) ∧ GL S (XF S r) w q ∧ ∃ j, j < S 2 ∧ 4 * j + w j = x := fun x => by rw [hF.2.2.2.2.1 x, GA_e hu]
  have l15 : u.2.2.2.1 < 2 ^ 16 := lt_16 fun x hx => by
    obtain ⟨r, w, q, _, _, j, h1, h2⟩ := (b15 x).mp hx
    have := ldQ_lt (S := S) (X := XF S r) (w := w) (q := q) (k := j) (by omega)
    omega
  have l16 : u.2.2.2.2 < 2 ^ 16 := lt_16 fun x hx => by
    obtain ⟨r, w, q, _, hg, j, h1, h2⟩ := (b16 x).mp hx
    have := (hg.1.1 j h1).1
    omega
  refine ⟨nI (nb4 (if j = 0 then u.2.2.2.1 else u.2.2.2.2) k), m1, ?_, p3, p4, fun m' hz => ?_⟩
  · rw [hL, if_pos (by rw [nI_ltI (by omega) (by omega)]; exact y), p1, Option.bind_some, a4, a5]
    by_cases z : j = 0
    · rw [if_pos z, if_pos z, nib4 (by omega) (by omega)]
    · rw [if_neg z, if_neg z, nib4 (by omega) (by omega)]
  · obtain ⟨m2, m3, b1, b2, b3, b4, b5, b6⟩ := hR m' hz
    refine ⟨m3, ?_, b3⟩
    rw [hM, if_neg (by rw [zO3_at hz (by omega) (by omega) (by omega) (by omega), h9]; decide), zO3_at hz (k := 2) (by omega) (by omega) (by omega) (by omega), if_pos (by rw [nI_ltI (by omega) (by omega)]; exact y), b1, Option.bind_some, b2, Option.bind_some]
    congr 2
    by_cases z : j = 0
    · rw [if_pos z, if_pos z]
      obtain ⟨v, v1, v2⟩ := (b5.2.2.2.2.1 k hk).1
      rw [v2]
      congr 1
      refine ms_eq v1 nb4_lt fun c hc => ?_
      have e : v.testBit c = true ↔ TA S (2, k, c) m3 := ⟨fun h => ⟨hk, v, v1, v2, h⟩, fun ⟨_, v', a1, a2, a3⟩ => by
        rw [v2, nI_eq (by omega) (by omega)] at a2
        rw [a2]; exact a3⟩
      rw [e, b6, nb4_bit hc, b15]
      constructor
      · rintro ⟨r, w, q, h1, h2, h3, h4⟩
        exact ⟨r, w, q, h1, h2, k, h3, by rw [h4]⟩
      · rintro ⟨r, w, q, h1, h2, j', h3, h4⟩
        have := ldQ_lt (S := S) (X := XF S r) (w := w) (q := q) (k := j') (by omega)
        obtain rfl : j' = k := by omega
        exact ⟨r, w, q, h1, h2, h3, by omega⟩
    · rw [if_neg z, if_neg z]
      obtain ⟨v, v1, v2⟩ := (b5.2.2.2.2.1 k hk).2
      rw [v2]
      congr 1
      refine ms_eq v1 nb4_lt fun c hc => ?_
      have e : v.testBit c = true ↔ TA S (3, k, c) m3 := ⟨fun h => ⟨hk, v, v1, v2, h⟩, fun ⟨_, v', a1, a2, a3⟩ => by
        rw [v2, nI_eq (by omega) (by omega)] at a2
        rw [a2]; exact a3⟩
      rw [e, b6, nb4_bit hc, b16]
      constructor
      · rintro ⟨r, w, q, h1, h2, h3, h4⟩
        exact ⟨r, w, q, h1, h2, k, h3, by rw [h4]⟩
      · rintro ⟨r, w, q, h1, h2, j', h3, h4⟩
        have := (h2.1.1 j' h3).1
        obtain rfl : j' = k := by omega
        exact ⟨r, w, q, h1, h2, h3, by omega⟩
