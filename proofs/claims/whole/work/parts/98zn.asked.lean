/-! THE CALLS OF THE SEARCH: asked of both -/
theorem b_15 (i : Nat) (h : i < 32) : bt 15 i = decide (i < 4) := (by decide +kernel : ∀ i, i < 32 → bt 15 i = decide (i < 4)) i h
theorem nibL {H k : Nat} (hk : k < 16) : ((lN H >>> ((nI (4 * k)).toInt64 &&& 63)).toInt32) &&& 15 = nI (nb4 H k) := by
  apply nI_ext
  intro i hi
  rw [b_and, b_15 i hi]
  by_cases y : i < 4
  · rw [decide_eq_true y, Bool.and_true, nb4_bit y, wb_c (4 * k) (by omega)]
    unfold bt
    have e : (lN H >>> lN (4 * k)).toInt32.toBitVec = (lN H >>> lN (4 * k)).toBitVec.setWidth 32 := by
      show (lN H >>> lN (4 * k)).toBitVec.signExtend 32 = _
      rw [BitVec.signExtend_eq_setWidth_of_le _ (by decide)]
    rw [e, BitVec.getLsbD_setWidth, decide_eq_true hi, Bool.true_and, Int64.toBitVec_shiftRight]
    show ((lN H).toBitVec.sshiftRight ((lN (4 * k)).toBitVec.smod 64).toNat).getLsbD i = _
    rw [wb_tb, wb_tb, wb_sm (4 * k) (by omega), BitVec.toNat_ofNat, Nat.mod_eq_of_lt (show 4 * k < 2 ^ 64 by omega), BitVec.getLsbD_sshiftRight, if_pos (by omega), BitVec.getLsbD_ofNat, decide_eq_true (show 4 * k + i < 64 by omega), decide_eq_false (show ¬ 64 ≤ i by omega)]
    rfl
  · rw [decide_eq_false y, Bool.and_false]
    exact (bit_high (k := 4) nb4_lt (by omega)).symm
/-- the reference's search touches this -/
def Kpm (m m2 : rn_Mem) : Prop := (∀ p i, ¬ ((p = 115 ∧ ((6 ≤ i ∧ i ≤ 15) ∨ i = 21)) ∨ (119 ≤ p ∧ p ≤ 137)) → m2.1 p i = m.1 p i) ∧ ∀ p i, ¬ (p = 115 ∧ i = 14) → m2.2 p i = m.2 p i
theorem Kpm.rf {m : rn_Mem} : Kpm m m := ⟨fun _ _ _ => rfl, fun _ _ _ => rfl⟩
theorem Kpm.tr {m m1 m2 : rn_Mem} (h : Kpm m m1) (h2 : Kpm m1 m2) : Kpm m m2 := ⟨fun p i a => by rw [h2.1 p i a, h.1 p i a], fun p i a => by rw [h2.2 p i a, h.2 p i a]⟩
theorem Kpl.m {m m2 : rn_Mem} (h : Kpl m m2) : Kpm m m2 := ⟨fun p i a => by
  by_cases e : p = 115
  · subst e; exact h.2.1 i (by omega) (by omega)
  · rw [h.1 p e (by omega)], h.2.2⟩
theorem Kpm_i {m : rn_Mem} {i : Nat} {x : Int32} (hi : 6 ≤ i ∧ i ≤ 15) : Kpm m (rm_i m 115 i x) := ⟨fun p j a => by rw [mi_get, if_neg (by omega)], fun p j _ => by rw [mi_2]⟩
theorem Kpm_z {S : Nat → Nat} {m m2 : rn_Mem} (h : Kpm m m2) (hz : zO3 S (m.1 116)) : zO3 S (m2.1 116) := by
  rw [show m2.1 116 = m.1 116 from funext fun i => h.1 116 i (by omega)]
  exact hz
theorem ask_sp {S : Nat → Nat} {n : Nat} {m : rn_Mem} (wc : WC S) (hz : zO3 S (m.1 116)) : ∃ m2, mo_askAll n m = some m2 ∧ Kpm m m2 ∧ RM S 4 (2 ^ S 10 - 1) false 4 m2 ∧ m2.1 115 13 = 0 ∧ m2.1 115 6 = nI (2 ^ S 10 - 1) := by
  have h6 := wc.1
  have z10 : m.1 116 10 = nI (S 10) := hz.1 10 (by omega) (by omega) (by omega) (by omega)
  have z5 : m.1 116 5 = nI (S 5) := hz.1 5 (by omega) (by omega) (by omega) (by omega)
  have z6 : m.1 116 6 = nI (S 6) := hz.1 6 (by omega) (by omega) (by omega) (by omega)
  have hp : 1 ≤ 2 ^ S 10 := Nat.two_pow_pos _
  have hp2 : 2 ^ S 10 ≤ 2 ^ 6 := Nat.pow_le_pow_right (by decide) h6
  have e6 : ((1 : Int32) <<< ((m.1 116 10) &&& 31)) - 1 = nI (2 ^ S 10 - 1) := by
    rw [z10, shl_1 (by omega)]
    exact pk_sub (b := 1) (by omega)
  refine ⟨_, rfl, ?_, ?_, ?_, ?_⟩
  · refine (((((((Kpm_i (by omega)).tr (Kpm_i (by omega))).tr (Kpm_i (by omega))).tr (Kpm_i (by omega))).tr (Kpm_i (by omega))).tr (Kpm_i (by omega))).tr (Kpm_i (by omega))).tr (Kpm_i (by omega))
  · unfold RM RXm
    simp (disch := omega) only [mi_get, mc_get, mi_2, mc_2, mj_1, mj_get, if_pos, if_neg, true_and, and_true, if_true, and_self]
    refine ⟨rfl, hz.2.1, z6, e6, z5, rfl, fun c hc => ?_⟩
    rw [show (-4 : Int32) = mI 4 from rfl, eq_nm (by omega) (by omega) (by omega)]
    exact ⟨fun h => h.elim, fun h => by omega⟩
  · simp (disch := omega) only [mi_get, mc_get, mi_2, mc_2, mj_1, mj_get, if_pos, if_neg, true_and, and_true, if_true, and_self]
  · simp (disch := omega) only [mi_get, mc_get, mi_2, mc_2, mj_1, mj_get, if_pos, if_neg, true_and, and_true, if_true, and_self]
    exact e6
/-- one call of both -/
def SC (S : Nat → Nat) (f g : rn_Mem → Option (Int32 × rn_Mem)) (m : rn_Mem) : Prop := ∃ (r : Int32) (m1 : rn_Mem), f m = some (r, m1) ∧ CH S m1 ∧ Kcs m m1 ∧ ∀ m' : rn_Mem, zO3 S (m'.1 116) → ∃ m2, g m' = some (r, m2) ∧ Kpm m' m2
theorem SC_r {S : Nat → Nat} {f g : rn_Mem → Option (Int32 × rn_Mem)} {m : rn_Mem} (r : Int32) (hC : CH S m) (h1 : f m = some (r, m)) (h2 : ∀ m' : rn_Mem, zO3 S (m'.1 116) → g m' = some (r, m')) : SC S f g m := ⟨r, m, h1, hC, Kcs.rf, fun m' hz => ⟨m', h2 m' hz, Kpm.rf⟩⟩
/-- all plays, surveyed by both -/
theorem both_A {S V : Nat → Nat} {n : Nat} {m : rn_Mem} (hn : 1000000 ≤ n) (hw : WF S) (h9 : S 9 = 1) (hc : cS3 S V 3 m) (hC : CH S m) : (∃ m1, lt_survey n m = some m1 ∧ CA S m1 ∧ CH S m1 ∧ Kcs m m1) ∧ ∀ m' : rn_Mem, zO3 S (m'.1 116) → ∃ m2 m3, mo_askAll n m' = some m2 ∧ mo_findPlays n m2 = some m3 ∧ Kpm m' m3 ∧ RL S m3 ∧ JA S m3 (cAll S) ∧ ∀ i, TA S i m3 ↔ ∃ r w q, r < fac (uc S) ∧ GL S (XF S r) w q ∧ DA S (XF S r) r w q i := by
  have h0 : S 0 = 1 := by
    rcases hw with h | h
    · omega
    · exact h.1
  obtain ⟨wg, wt, wc, _⟩ := WF_1 hw h0
  refine ⟨survey_sp wg wt wc h0 h9 (by omega) hc hC, fun m' hz => ?_⟩
  obtain ⟨m2, a1, a2, a3, a4, _⟩ := ask_sp (n := n) wc hz
  obtain ⟨m3, b1, bL, b2, b3, b4⟩ := find_A (nf := n) (by omega) wg wt wc h9 (by omega) (Kpm_z a2 hz).t a3 a4
  exact ⟨m2, m3, a1, b1, a2.tr b2.m, bL, b3, b4⟩
theorem WF_9 {S : Nat → Nat} (hw : WF S) (h9 : S 9 = 1) : S 0 = 1 ∧ WG S ∧ WT S ∧ WC S := by
  rcases hw with h | h
  · omega
  · exact ⟨h.1, h.2.1, h.2.2.1, h.2.2.2.1⟩
theorem kWh_bit {S : Nat → Nat} {L x : Nat} {f : Nat → Nat} : ∀ {j : Nat}, (kWh S L f j).testBit x = true ↔ ∃ i, i < j ∧ 4 * f i + (L + i) % S 1 = x
  | 0 => by
    rw [kWh, Nat.zero_testBit]
    exact ⟨fun h => absurd h (by decide), fun ⟨i, h, _⟩ => absurd h (Nat.not_lt_zero i)⟩
  | j + 1 => by
    rw [kWh, Nat.testBit_or, Bool.or_eq_true, kWh_bit, Nat.testBit_two_pow, decide_eq_true_iff]
    constructor
    · rintro (⟨i, h1, h2⟩ | h)
      · exact ⟨i, by omega, h2⟩
      · exact ⟨j, by omega, h⟩
    · rintro ⟨i, h1, h2⟩
      by_cases e : i = j
      · rw [e] at h2; exact Or.inr h2
      · exact Or.inl ⟨i, by omega, h2⟩
/-- two masks of few bits that are alike -/
theorem ms_eq {a b k : Nat} (ha : a < 2 ^ k) (hb : b < 2 ^ k) (h : ∀ i, i < k → (a.testBit i = true ↔ b.testBit i = true)) : a = b := by
  apply Nat.eq_of_testBit_eq
  intro i
  by_cases y : i < k
  · exact bo_x.mpr (h i y)
  · rw [bit_high ha (by omega), bit_high hb (by omega)]
/-- who may have held a card: the class's bits and the reference's are the same number -/
theorem held_eq {S : Nat → Nat} {x H : Nat} {m3 : rn_Mem} (wg : WG S) (hx : x < 16) (hJ : JA S m3 (cAll S)) (hT : ∀ i, TA S i m3 ↔ ∃ r w q, r < fac (uc S) ∧ GL S (XF S r) w q ∧ DA S (XF S r) r w q i) (hH : ∀ y, H.testBit y = true ↔ ∃ r w q, r < fac (uc S) ∧ GL S (XF S r) w q ∧ ∃ j, j < S 2 ∧ (kWh S (ldQ S (XF S r) w q j) (xcQ S (XF S r) w q j) (S 1)).testBit y = true) : m3.1 120 x = nI (nb4 H x) := by
  have w1 : 2 ≤ S 1 := wg.1
  have w2 : S 1 ≤ 4 := wg.2.1
  obtain ⟨v, v1, v2⟩ := hJ.2.2.1 x hx
  rw [v2]
  congr 1
  refine ms_eq v1 nb4_lt fun c hc => ?_
  have e : v.testBit c = true ↔ TA S (0, x, c) m3 := ⟨fun h => ⟨hx, v, v1, v2, h⟩, fun ⟨_, v', a1, a2, a3⟩ => by
    rw [v2, nI_eq (by omega) (by omega)] at a2
    rw [a2]; exact a3⟩
  rw [e, hT, nb4_bit hc, hH]
  constructor
  · rintro ⟨r, w, q, h1, h2, _, k, t, h3, h4, h5, h6⟩
    exact ⟨r, w, q, h1, h2, k, h3, kWh_bit.mpr ⟨t, h4, by rw [h5, h6]⟩⟩
  · rintro ⟨r, w, q, h1, h2, k, h3, h4⟩
    obtain ⟨t, h5, h6⟩ := kWh_bit.mp h4
    have : (ldQ S (XF S r) w q k + t) % S 1 < S 1 := Nat.mod_lt _ (by omega)
    exact ⟨r, w, q, h1, h2, hx, k, t, h3, h5, by omega, by omega⟩
theorem S_may {S V : Nat → Nat} {n : Nat} {m : rn_Mem} (hn : 1000000 ≤ n) (hw : WF S) (hc : cS3 S V 3 m) (hC : CH S m) (a : Int32) : SC S (lt_may n a) (mo_may n a) m ∧ (∀ r m1, lt_may n a m = some (r, m1) → r < 0 ∨ ∃ v, v < 2 ^ 4 ∧ (∀ i, v.testBit i = true → i < S 1) ∧ r = nI v) := by
  have c5 : m.1 5 0 = nI (S 9) := hc.2.1.1
  by_cases ha : 0 ≤ a.toInt ∧ a.toInt ≤ 15
  case neg =>
    have e : lt_may n a m = some (-1, m) := by
      unfold lt_may lt_refusalOf
      simp only [i_lt, t0, t16]
      by_cases y : a.toInt < 0
      · rw [if_pos y]; rfl
      · rw [if_neg y, if_neg (by omega)]; rfl
    refine ⟨SC_r (-1) hC e fun m' _ => ?_, fun r m1 h => ?_⟩
    · unfold mo_may
      rw [mo_in_i n a 0 15 0 15 m' (by decide) (by decide), if_neg ha]
      rfl
    · rw [e] at h
      injection h with h
      injection h with h1 h2
      rw [← h1]
      exact Or.inl (by decide)
  obtain ⟨x, hx, rfl⟩ := i_nat (x := a) (k := 16) ha.1 (by omega)
  have hL : lt_may n (nI x) m = if m.1 5 0 = 0 then some (-2, m) else (ga_has n 4 (nI x) m).bind fun (r5, m4) => if r5 = 0 then some (-1, m4) else (lt_survey n m4).bind fun m5 => (se_holdersOf n (nI x) m5).bind fun (r8, m7) => some (r8, m7) := by
    unfold lt_may lt_refusalOf
    rw [if_neg (by rw [i_lt, t0]; omega), if_pos (by rw [i_lt, t16]; omega)]
    by_cases y : m.1 5 0 = 0
    · rw [if_pos y, if_pos y]; rfl
    · rw [if_neg y, if_neg y]
      unfold ga_has
      rw [if_neg (by rw [i_lt, t0]; omega), if_pos (by rw [i_lt, t16]; omega)]
      by_cases y2 : (((m.1 4 3) >>> (nI x &&& 31)) &&& 1) = 0
      · rw [if_pos y2]; rfl
      · rw [if_neg y2]; rfl
  have hM : ∀ m' : rn_Mem, mo_may n (nI x) m' = if m'.1 116 9 = 0 then some (-2, m') else (mo_isInPack n (nI x) m').bind fun (r7, m6) => if r7 = 0 then some (-1, m6) else (mo_askAll n m6).bind fun m10 => (mo_findPlays n m10).bind fun m12 => some (m12.1 120 x, m12) := by
    intro m'
    unfold mo_may
    rw [mo_in_i n _ 0 15 0 15 m' (by decide) (by decide), if_pos ha, Option.bind_some]
    try simp only []
    rw [if_neg (by decide)]
    simp only [if_pos (show rn_in (nI x) 16 = true from (in_n (by omega)).mpr hx), nI_n (show x < 2 ^ 31 by omega)]
  rcases S9_01 hw with h9 | h9
  · have e : lt_may n (nI x) m = some (-2, m) := by rw [hL, if_pos (by rw [c5, h9]; rfl)]
    refine ⟨SC_r (-2) hC e fun m' hz => ?_, fun r m1 h => ?_⟩
    · rw [hM, if_pos (by rw [zO3_at hz (by omega) (by omega) (by omega) (by omega), h9]; rfl)]
    · rw [e] at h
      injection h with h
      injection h with h1 h2
      rw [← h1]
      exact Or.inl (by decide)
  obtain ⟨h0, wg, wt, wc⟩ := WF_9 hw h9
  have w3 : S 3 < 65536 := wg.2.2.2.2.2.1
  have c3 : m.1 4 3 = nI (S 3) := (hc.1.2 h0).2.2.1
  have hga : ga_has n 4 (nI x) m = some (if (S 3).testBit x = true then 1 else 0, m) := by
    unfold ga_has
    rw [if_neg (by rw [i_lt, t0]; omega), if_pos (by rw [i_lt, t16]; omega), c3]
    by_cases y : (S 3).testBit x = true
    · rw [if_neg (fun t => by rw [(bit_0 (by omega) (by omega)).mp t] at y; exact absurd y (by decide)), if_pos y]
    · rw [if_pos ((bit_0 (by omega) (by omega)).mpr (Bool.not_eq_true _ |>.mp y)), if_neg y]
  rw [c5, if_neg (by rw [h9]; decide), hga, Option.bind_some] at hL
  by_cases y : (S 3).testBit x = true
  case neg =>
    have e : lt_may n (nI x) m = some (-1, m) := by rw [hL]; simp only [if_neg y]; rfl
    refine ⟨SC_r (-1) hC e fun m' hz => ?_, fun r m1 h => ?_⟩
    · rw [hM, if_neg (by rw [zO3_at hz (by omega) (by omega) (by omega) (by omega), h9]; decide), mo_isInPack_eq n S x m' (by omega) (zO3_at hz (by omega) (by omega) (by omega) (by omega)) w3, if_neg y]
      rfl
    · rw [e] at h
      injection h with h
      injection h with h1 h2
      rw [← h1]
      exact Or.inl (by decide)
  obtain ⟨⟨m1, p1, p2, p3, p4⟩, hR⟩ := both_A hn hw h9 hc hC
  obtain ⟨v, u, um, a1, a2, a3, a4, a5, a6, a7, a8, hF⟩ := p2
  have hu : uc S < 4 := by have := (wt.2 h9).2.2.2.2; omega
  have e : lt_may n (nI x) m = some (nI (nb4 u.2.2.1 x), m1) := by
    rw [hL]
    simp only [if_pos y]
    rw [if_neg (by decide), p1, Option.bind_some, se_holdersOf, Option.bind_some, a3, m4k, nibL hx]
  refine ⟨⟨_, m1, e, p3, p4, fun m' hz => ?_⟩, fun r m1' h => ?_⟩
  · obtain ⟨m2, m3, b1, b2, b3, b4, b5, b6⟩ := hR m' hz
    refine ⟨m3, ?_, b3⟩
    rw [hM, if_neg (by rw [zO3_at hz (by omega) (by omega) (by omega) (by omega), h9]; decide), mo_isInPack_eq n S x m' (by omega) (zO3_at hz (by omega) (by omega) (by omega) (by omega)) w3, if_pos y, Option.bind_some]
    try simp only []
    rw [if_neg (by decide), b1, Option.bind_some, b2, Option.bind_some, held_eq wg hx b5 b6 (fun z => by rw [hF.2.2.1 z, GA_e hu])]
  · rw [e] at h
    injection h with h
    injection h with h1 h2
    rw [← h1]
    refine Or.inr ⟨_, nb4_lt, fun i hi => ?_, rfl⟩
    by_cases z : i < 4
    · rw [nb4_bit z, hF.2.2.1, GA_e hu] at hi
      obtain ⟨r, w, q, _, _, k, _, h4⟩ := hi
      obtain ⟨t, _, h6⟩ := kWh_bit.mp h4
      have hm2 : (ldQ S (XF S r) w q k + t) % S 1 < S 1 := Nat.mod_lt _ (by have := wg.1; omega)
      have := wg.2.1
      omega
    · rw [bit_high (k := 4) nb4_lt (by omega)] at hi
      exact absurd hi (by decide)
