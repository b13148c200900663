/-! THE CALLS OF THE SEARCH: first, under -/
theorem nb4_div {M k : Nat} : M / 2 ^ (4 * k) % 16 = nb4 M k := by
  apply Nat.eq_of_testBit_eq
  intro i
  rw [show (16 : Nat) = 2 ^ 4 from rfl, Nat.testBit_mod_two_pow, Nat.testBit_div_two_pow]
  by_cases y : i < 4
  · rw [decide_eq_true y, Bool.true_and, nb4_bit y]
    congr 1
    omega
  · rw [decide_eq_false y, Bool.false_and]
    exact (bit_high (k := 4) nb4_lt (by omega)).symm
theorem le_eq {a b : Nat} (h : ∀ y, a ≤ y ↔ b ≤ y) : a = b := Nat.le_antisymm ((h b).mpr (Nat.le_refl b)) ((h a).mp (Nat.le_refl a))
theorem fi_13 {a : Int32} (h : -1 ≤ a.toInt ∧ a.toInt ≤ 11) : ∃ i : Nat, i < 13 ∧ a.toInt = (i : Int) - 1 ∧ (1 : Int32) + a = nI i ∧ ∀ N : Nat, i ≤ N → N < 13 → 1 ≤ N → (nI N - 1) - a = nI (N - i) := by
  by_cases y : a.toInt = -1
  · have e : a = -1 := by
      have : a.toInt = (-1 : Int32).toInt := by rw [y]; rfl
      exact Int32.toInt_inj.mp this
    subst e
    refine ⟨0, by omega, y, rfl, fun N _ h2 h3 => ?_⟩
    exact (by decide : ∀ N, N < 13 → 1 ≤ N → (nI N - 1) - (-1) = nI (N - 0)) N h2 h3
  · obtain ⟨k, hk, rfl⟩ := i_nat (x := a) (k := 12) (by omega) (by omega)
    refine ⟨k + 1, by omega, by rw [nI_int (by omega)]; omega, by rw [nI_1', Nat.add_comm], fun N h1 h2 h3 => ?_⟩
    rw [show nI N - 1 = nI (N - 1) from pk_sub (b := 1) h3, pk_sub (by omega)]
    congr 1
    omega
theorem S_first {S V : Nat → Nat} {n : Nat} {m : rn_Mem} (hn : 1000000 ≤ n) (hw : WF S) (hc : cS3 S V 3 m) (hC : CH S m) (a : Int32) : SC S (lt_first n a) (mo_first n a) m := by
  have c5 : m.1 5 0 = nI (S 9) := hc.2.1.1
  by_cases ha : -1 ≤ a.toInt ∧ a.toInt ≤ 11
  case neg =>
    refine SC_r (-1) hC ?_ fun m' _ => ?_
    · unfold lt_first
      simp only [i_lt, tm1, t12]
      by_cases q : a.toInt < -1
      · rw [if_pos q]
      · rw [if_neg q, if_neg (by omega)]
    · unfold mo_first
      rw [mo_in_i n a (-1) 11 (-1) 11 m' (by decide) (by decide), if_neg ha]
      rfl
  have hL : lt_first n a m = if m.1 5 0 = 0 then some (-2, m) else if a < m.1 4 1 * m.1 4 2 then (lt_survey n m).bind fun m8 => if (lg_cmp (m8.2 51 12) 0) = 0 then some ((-4), m8) else some ((((m8.2 51 13) >>> (((4 : Int32) * ((m.1 4 1 * m.1 4 2 - 1) - a)).toInt64 &&& 63)).toInt32) &&& 15, m8) else some (-1, m) := by
    unfold lt_first ga_cards
    rw [if_neg (by rw [i_lt, tm1]; omega), if_pos (by rw [i_lt, t12]; omega)]
    rfl
  have hM : ∀ m' : rn_Mem, mo_first n a m' = if m'.1 116 9 = 0 then some (-2, m') else if a < m'.1 116 1 * m'.1 116 2 then (mo_askAll n m').bind fun m10 => (mo_findPlays n m10).bind fun m12 => if (lg_cmp (m12.2 115 14) 0) = 0 then some ((-4), m12) else if rn_in ((1 : Int32) + a) 13 = true then some (m12.1 124 ((1 : Int32) + a).toNatClampNeg, m12) else none else some (-1, m') := by
    intro m'
    unfold mo_first mo_size
    rw [mo_in_i n _ (-1) 11 (-1) 11 m' (by decide) (by decide), if_pos ha]
    rfl
  obtain ⟨i, hi, i1, i2, i3⟩ := fi_13 ha
  rcases S9_01 hw with h9 | h9
  · refine SC_r (-2) hC ?_ fun m' hz => ?_
    · rw [hL, if_pos (by rw [c5, h9]; rfl)]
    · rw [hM, if_pos (by rw [zO3_at hz (by omega) (by omega) (by omega) (by omega), h9]; rfl)]
  obtain ⟨h0, wg, wt, wc⟩ := WF_9 hw h9
  have w1 : 2 ≤ S 1 := wg.1
  have w3 : 1 ≤ S 2 := wg.2.2.1
  have w12 : S 1 * S 2 ≤ 12 := wg.2.2.2.2.1
  have hN : 0 < S 1 * S 2 := Nat.mul_pos (by omega) (by omega)
  have c1 : m.1 4 1 = nI (S 1) := (hc.1.2 h0).1
  have c2 : m.1 4 2 = nI (S 2) := (hc.1.2 h0).2.1
  rw [c5, if_neg (by rw [h9]; decide), c1, c2, pk_mul] at hL
  have hM2 : ∀ m' : rn_Mem, zO3 S (m'.1 116) → mo_first n a m' = if a < nI (S 1 * S 2) then (mo_askAll n m').bind fun m10 => (mo_findPlays n m10).bind fun m12 => if (lg_cmp (m12.2 115 14) 0) = 0 then some ((-4), m12) else some (m12.1 124 i, m12) else some (-1, m') := by
    intro m' hz
    rw [hM, if_neg (by rw [zO3_at hz (by omega) (by omega) (by omega) (by omega), h9]; decide), zO3_at hz (k := 1) (by omega) (by omega) (by omega) (by omega), zO3_at hz (k := 2) (by omega) (by omega) (by omega) (by omega), pk_mul, i2]
    simp only [if_pos (show rn_in (nI i) 13 = true from (in_n (by omega)).mpr hi), nI_n (show i < 2 ^ 31 by omega)]
  have hlt : a < nI (S 1 * S 2) ↔ i ≤ S 1 * S 2 := by rw [i_lt, nI_int (by omega), i1]; omega
  by_cases y : i ≤ S 1 * S 2
  case neg =>
    refine SC_r (-1) hC ?_ fun m' hz => ?_
    · rw [hL, if_neg (fun t => y (hlt.mp t))]
    · rw [hM2 m' hz, if_neg (fun t => y (hlt.mp t))]
  rw [if_pos (hlt.mpr y), i3 _ y (by omega) hN, m4k] at hL
  obtain ⟨⟨m1, p1, p2, p3, p4⟩, hR⟩ := both_A hn hw h9 hc hC
  obtain ⟨v, u, um, a1, a2, a3, a4, a5, a6, a7, a8, hF⟩ := p2
  have hu : uc S < 4 := by have := (wt.2 h9).2.2.2.2; omega
  have hcu : u.1 = cAll S := FN_count hu hF
  have hz1 : lg_cmp (lN u.1) 0 = 0 ↔ u.1 = 0 := by
    rw [lc_e]
    exact fb_lN_inj (a := u.1) (b := 0) (by omega) (by omega)
  rw [p1, Option.bind_some, a1, a2] at hL
  by_cases y0 : u.1 = 0
  · refine ⟨-4, m1, by rw [hL, if_pos (hz1.mpr y0)], p3, p4, fun m' hz => ?_⟩
    obtain ⟨m2, m3, b1, b2, b3, b4, b5, b6⟩ := hR m' hz
    exact ⟨m3, by rw [hM2 m' hz, if_pos (hlt.mpr y), b1, Option.bind_some, b2, Option.bind_some, b5.1, ← hcu, if_pos (hz1.mpr y0)], b3⟩
  have hup : 0 < u.1 := by omega
  obtain ⟨e1, e2⟩ := a6 hup
  refine ⟨nI (nb4 u.2.1 (S 1 * S 2 - i)), m1, by rw [hL, if_neg (fun t => y0 (hz1.mp t)), e1, nibL (by omega)], p3, p4, fun m' hz => ?_⟩
  obtain ⟨m2, m3, b1, b2, b3, b4, b5, b6⟩ := hR m' hz
  refine ⟨m3, ?_, b3⟩
  rw [hM2 m' hz, if_pos (hlt.mpr y), b1, Option.bind_some, b2, Option.bind_some, b5.1, ← hcu, if_neg (fun t => y0 (hz1.mp t))]
  obtain ⟨f, hf⟩ := b5.2.2.2.2.2 (by rw [← hcu]; omega)
  have hne : m3.2 115 14 ≠ 0 := by
    rw [b5.1]
    exact fun t => y0 (by rw [hcu]; exact (lN_0 b5.2.1).1.mp t)
  have hmin : u.2.1 = pk16 f (1 + S 1 * S 2) := le_eq fun y => by
    have k1 := hF.2.1 y
    rw [GA_e hu] at k1
    have k2 := b6 (4, 0, y)
    have k3 : TA S (4, 0, y) m3 ↔ pk16 f (1 + S 1 * S 2) ≤ y := ⟨fun ⟨_, g, h1, h2⟩ => by rw [rowM_v hf h1]; exact h2, fun h => ⟨hne, f, hf, h⟩⟩
    have k4 : (0 < u.1 ∧ u.2.1 ≤ y) ↔ u.2.1 ≤ y := ⟨fun h => h.2, fun h => ⟨hup, h⟩⟩
    rw [← k4, k1, ← k3, k2]
    exact Iff.rfl
  rw [(hf i (by omega)).1, hmin]
  congr 2
  rw [← nb4_div, p16n, show 1 + S 1 * S 2 = i + 1 + (S 1 * S 2 - i) by omega, pk16_d fun j hj => (hf j (by omega)).2]
theorem un_gap {S : Nat → Nat} {c : Nat} (hs : S (12 + c) ≤ 12) : fb_ct (unS S) (12 * c + S (12 + c)) = fb_ct (unS S) (12 * (c + 1)) := by
  have h := fb_ct_split (unS S) (12 * c + S (12 + c)) (12 - S (12 + c))
  have h2 : fb_ct (fun k => unS S (12 * c + S (12 + c) + k)) (12 - S (12 + c)) = 0 := fb_ct_zero.mpr fun k hk => by
    cases e : unS S (12 * c + S (12 + c) + k) with
    | false => rfl
    | true =>
      rw [show 12 * c + S (12 + c) + k = 12 * c + (S (12 + c) + k) by omega, un_ci (by omega)] at e
      exact absurd e.1.2 (by omega)
  rw [h2, Nat.add_zero, show 12 * c + S (12 + c) + (12 - S (12 + c)) = 12 * (c + 1) by omega] at h
  exact h.symm
theorem ahead_l33 {S V : Nat → Nat} {m : rn_Mem} {c E : Nat} {a1 a2 : Int32} (hc : cS3 S V 3 m) (h9 : S 9 = 1) (hn : S 1 ≤ 4) (hcc : c < S 1) (hs : S (12 + c) ≤ 12) (hE : E ≤ S (12 + c)) : ∀ (d j nf : Nat), j + d = E → d < nf → ta_unseenAhead_l33 5 a1 a2 (nI c) (nI E) nf (nI (fb_ct (unS S) (12 * c + j))) (nI j) m = some (nI (fb_ct (unS S) (12 * c + E)), m) := by
  intro d
  induction d with
  | zero =>
    intro j nf e hnf
    obtain ⟨nf, rfl⟩ : ∃ k, nf = k + 1 := ⟨nf - 1, by omega⟩
    obtain rfl : j = E := by omega
    rw [ta_unseenAhead_l33, if_neg (by rw [nI_ltI (by omega) (by omega)]; omega)]
  | succ d ih =>
    intro j nf e hnf
    obtain ⟨nf, rfl⟩ : ∃ k, nf = k + 1 := ⟨nf - 1, by omega⟩
    have hcard : m.1 8 (12 * c + j) = cC (S (16 + 12 * c + j)) := ((hc.2.1.2 h9).2.1) c j hcc (by omega)
    have hst := fb_ct_succ (unS S) (12 * c + j)
    have hu := un_ci (S := S) (c := c) (i := j) (by omega)
    have h := ih (j + 1) nf (by omega) (by omega)
    rw [ta_unseenAhead_l33, if_pos (by rw [nI_ltI (by omega) (by omega)]; omega), ta_cardAt, show (12 : Int32) = nI 12 from rfl, pk_mul, nI_add, Nat.mul_comm c 12, if_pos ((in_n (by omega)).mpr (by omega)), nI_n (by omega), hcard, Option.bind_some]
    try simp only []
    by_cases y : 16 ≤ S (16 + 12 * c + j)
    · rw [if_pos (hu.mpr ⟨⟨hcc, by omega⟩, y⟩)] at hst
      rw [if_pos (show cC (S (16 + 12 * c + j)) = -4 by unfold cC; rw [if_neg (by omega)]; rfl), Option.bind_some, Option.bind_some, nI_1, nI_1, ← hst, Option.bind_some]
      exact h
    · have hst' : fb_ct (unS S) (12 * c + j + 1) = fb_ct (unS S) (12 * c + j) := by rw [hst, if_neg (fun t => y (hu.mp t).2)]; rfl
      rw [if_neg (show ¬ cC (S (16 + 12 * c + j)) = -4 by unfold cC; rw [if_pos (by omega), show (-4 : Int32) = mI 4 from rfl, eq_nm (by omega) (by omega) (by omega)]; exact id), Option.bind_some, nI_1, Option.bind_some, ← hst']
      exact h
theorem ahead_sp {S V : Nat → Nat} {m : rn_Mem} {c i nf : Nat} (hnf : 100 < nf) (wg : WG S) (wt : WT S) (hc : cS3 S V 3 m) (h9 : S 9 = 1) (hcc : c < S 1) (hi : i < S (12 + c)) (hu : fb_ct (unS S) (12 * c + i) ≤ 2) : ta_unseenAhead nf 5 (nI c) (nI i) m = some (nI (fb_ct (unS S) (12 * c + i)), m) := by
  have w2 : S 1 ≤ 4 := wg.2.1
  have hs : ∀ d, d < S 1 → S (12 + d) ≤ 12 := fun d hd => sz_12 wg wt h9 hd
  have loop : ∀ (d e nf : Nat), e + d = c → d + 50 < nf → ta_unseenAhead_l5 5 (nI c) (nI i) nf (nI (fb_ct (unS S) (12 * e))) (nI e) m = some (nI (fb_ct (unS S) (12 * c + i)), m) := by
    intro d
    induction d with
    | zero =>
      intro e nf h1 h2
      obtain ⟨nf, rfl⟩ : ∃ k, nf = k + 2 := ⟨nf - 2, by omega⟩
      obtain rfl : e = c := by omega
      have := hs e hcc
      rw [show nf + 2 = (nf + 1) + 1 from rfl, ta_unseenAhead_l5, if_neg (by rw [nI_ltI (by omega) (by omega)]; omega), if_neg (by rw [nI_ltI (by omega) (by omega)]; omega), Option.bind_some, show ta_unseenAhead_l33 5 (nI e) (nI i) (nI e) (nI i) (nf + 1) (nI (fb_ct (unS S) (12 * e))) 0 m = _ from ahead_l33 hc h9 w2 hcc (hs e hcc) (by omega) i 0 (nf + 1) (by omega) (by omega), Option.bind_some]
      try simp only []
      rw [nI_1, Option.bind_some, ta_unseenAhead_l5, if_pos (by rw [nI_ltI (by omega) (by omega)]; omega)]
    | succ d ih =>
      intro e nf h1 h2
      obtain ⟨nf, rfl⟩ : ∃ k, nf = k + 1 := ⟨nf - 1, by omega⟩
      have hse := hs e (by omega)
      rw [ta_unseenAhead_l5, if_neg (by rw [nI_ltI (by omega) (by omega)]; omega), if_pos (by rw [nI_ltI (by omega) (by omega)]; omega), if_pos ((in_n (by omega)).mpr (by omega)), nI_n (by omega), show m.1 (5 + 1) e = nI (S (12 + e)) from ((hc.2.1.2 h9).1 e (by omega)).1, Option.bind_some, show ta_unseenAhead_l33 5 (nI c) (nI i) (nI e) (nI (S (12 + e))) nf (nI (fb_ct (unS S) (12 * e))) 0 m = _ from ahead_l33 hc h9 w2 (show e < S 1 by omega) hse (Nat.le_refl _) (S (12 + e)) 0 nf (by omega) (by omega), Option.bind_some]
      try simp only []
      rw [nI_1, Option.bind_some, un_gap hse]
      exact ih (e + 1) nf (by omega) (by omega)
  unfold ta_unseenAhead
  rw [show ta_unseenAhead_l5 5 (nI c) (nI i) nf 0 0 m = _ from loop c 0 nf (by omega) (by omega), Option.bind_some]
  try simp only []
  rw [show ja_min nf (nI (fb_ct (unS S) (12 * c + i))) 2 m = some (nI (fb_ct (unS S) (12 * c + i)), m) by
    rw [ja_min, if_neg (by rw [show (2 : Int32) = nI 2 from rfl, nI_ltI (by omega) (by omega)]; omega)], Option.bind_some]
theorem S_under {S V : Nat → Nat} {n : Nat} {m : rn_Mem} (hn : 1000000 ≤ n) (hw : WF S) (hc : cS3 S V 3 m) (hC : CH S m) (a b : Int32) : SC S (lt_under n a b) (mo_under n a b) m := by
  have c5 : m.1 5 0 = nI (S 9) := hc.2.1.1
  by_cases ha : 0 ≤ a.toInt ∧ a.toInt ≤ 3
  case neg =>
    refine SC_r (-1) hC ?_ fun m' _ => ?_
    · unfold lt_under
      rw [lt_isNoChair_eq, if_neg ha]
      rfl
    · unfold mo_under
      rw [mo_in_i n a 0 3 0 3 m' (by decide) (by decide), if_neg ha]
      rfl
  by_cases hb : 0 ≤ b.toInt ∧ b.toInt ≤ 11
  case neg =>
    refine SC_r (-1) hC ?_ fun m' _ => ?_
    · unfold lt_under
      rw [lt_isNoChair_eq, if_pos ha, Option.bind_some]
      try simp only []
      rw [if_pos trivial]
      simp only [i_lt, t0, t12]
      by_cases q : b.toInt < 0
      · rw [if_pos q]
      · rw [if_neg q, if_neg (by omega)]
    · unfold mo_under
      rw [mo_in_i n a 0 3 0 3 m' (by decide) (by decide), if_pos ha, Option.bind_some]
      try simp only []
      rw [if_neg (by decide), mo_in_i n b 0 11 0 11 m' (by decide) (by decide), if_neg hb]
      rfl
  obtain ⟨c, hcc, rfl⟩ := i_nat (x := a) (k := 4) ha.1 (by omega)
  obtain ⟨i, hi, rfl⟩ := i_nat (x := b) (k := 12) hb.1 (by omega)
  have hL : lt_under n (nI c) (nI i) m = if m.1 5 0 = 0 then some (-2, m) else if nI c < m.1 4 1 then if nI i < m.1 6 c then if m.1 8 (12 * c + i) = -4 then (lt_survey n m).bind fun m15 => (ta_unseenAhead n 5 (nI c) (nI i) m15).bind fun (r18, m17) => if rn_in r18 3 = true then some (m17.1 68 r18.toNatClampNeg, m17) else none else some (-2, m) else some (-1, m) else some (-1, m) := by
    unfold lt_under ta_cardAt
    rw [lt_isNoChair_eq, if_pos ha, Option.bind_some]
    try simp only []
    rw [if_pos trivial, if_neg (by rw [i_lt, t0]; omega), if_pos (by rw [i_lt, t12]; omega), show nI c * 12 = nI (12 * c) by rw [show (12 : Int32) = nI 12 from rfl, pk_mul, Nat.mul_comm], nI_add, if_pos (show rn_in (nI (12 * c + i)) 48 = true from (in_n (by omega)).mpr (by omega)), nI_n (show 12 * c + i < 2 ^ 31 by omega), if_pos (show rn_in (nI c) 4 = true from (in_n (by omega)).mpr hcc), nI_n (show c < 2 ^ 31 by omega)]
    rfl
  have hM : ∀ m' : rn_Mem, mo_under n (nI c) (nI i) m' = if m'.1 116 9 = 0 then some (-2, m') else (mo_isChair n (nI c) m').bind fun (r11, m10) => if r11 = 0 then some (-1, m10) else if nI i < m10.1 116 (12 + c) then if m10.1 116 (16 + 12 * c + i) < 0 then (mo_askAll n m10).bind fun m18 => (mo_findPlays n m18).bind fun m20 => (mo_under_l92 (nI c) (nI i) n 0 m20).bind fun q => match q with | .inl o => some o | .inr m27 => some ((-2), m27) else some (-2, m10) else some (-1, m10) := by
    intro m'
    unfold mo_under
    rw [mo_in_i n _ 0 3 0 3 m' (by decide) (by decide), if_pos ha, Option.bind_some]
    try simp only []
    rw [if_neg (by decide), mo_in_i n _ 0 11 0 11 m' (by decide) (by decide), if_pos hb, Option.bind_some]
    try simp only []
    rw [if_neg (by decide)]
    simp only [show (12 : Int32) + nI c = nI (12 + c) from nI_add 12 c, show (16 : Int32) + 12 * nI c + nI i = nI (16 + 12 * c + i) by rw [show (12 : Int32) = nI 12 from rfl, show (16 : Int32) = nI 16 from rfl, pk_mul, nI_add, nI_add], if_pos (show rn_in (nI (12 + c)) 101 = true from (in_n (by omega)).mpr (by omega)), if_pos (show rn_in (nI (16 + 12 * c + i)) 101 = true from (in_n (by omega)).mpr (by omega)), nI_n (show 12 + c < 2 ^ 31 by omega), nI_n (show 16 + 12 * c + i < 2 ^ 31 by omega)]
    rfl
  rcases S9_01 hw with h9 | h9
  · refine SC_r (-2) hC ?_ fun m' hz => ?_
    · rw [hL, if_pos (by rw [c5, h9]; rfl)]
    · rw [hM, if_pos (by rw [zO3_at hz (by omega) (by omega) (by omega) (by omega), h9]; rfl)]
  obtain ⟨h0, wg, wt, wc⟩ := WF_9 hw h9
  have w1 : 2 ≤ S 1 := wg.1
  have w2 : S 1 ≤ 4 := wg.2.1
  have c1 : m.1 4 1 = nI (S 1) := (hc.1.2 h0).1
  rw [c5, if_neg (by rw [h9]; decide), c1] at hL
  have hM2 : ∀ m' : rn_Mem, zO3 S (m'.1 116) → mo_under n (nI c) (nI i) m' = if c < S 1 then if nI i < m'.1 116 (12 + c) then if m'.1 116 (16 + 12 * c + i) < 0 then (mo_askAll n m').bind fun m18 => (mo_findPlays n m18).bind fun m20 => (mo_under_l92 (nI c) (nI i) n 0 m20).bind fun q => match q with | .inl o => some o | .inr m27 => some ((-2), m27) else some (-2, m') else some (-1, m') else some (-1, m') := by
    intro m' hz
    rw [hM, if_neg (by rw [zO3_at hz (by omega) (by omega) (by omega) (by omega), h9]; decide), mo_isChair_eq n S (nI c) m' (zO3_at hz (by omega) (by omega) (by omega) (by omega)) (by omega), Option.bind_some]
    try simp only []
    by_cases y : c < S 1
    · rw [if_pos (show 0 ≤ (nI c).toInt ∧ (nI c).toInt < S 1 by rw [nI_int (by omega)]; omega), if_neg (by decide), if_pos y]
    · rw [if_neg (show ¬ (0 ≤ (nI c).toInt ∧ (nI c).toInt < S 1) by rw [nI_int (by omega)]; omega), if_pos rfl, if_neg y]
  by_cases y1 : c < S 1
  case neg =>
    refine SC_r (-1) hC ?_ fun m' hz => ?_
    · rw [hL, if_neg (by rw [nI_ltI (by omega) (by omega)]; exact y1)]
    · rw [hM2 m' hz, if_neg y1]
  have hsc := sz_12 wg wt h9 y1
  have c6 : m.1 6 c = nI (S (12 + c)) := ((hc.2.1.2 h9).1 c y1).1
  rw [if_pos (by rw [nI_ltI (by omega) (by omega)]; exact y1), c6] at hL
  by_cases y2 : i < S (12 + c)
  case neg =>
    refine SC_r (-1) hC ?_ fun m' hz => ?_
    · rw [hL, if_neg (by rw [nI_ltI (by omega) (by omega)]; exact y2)]
    · rw [hM2 m' hz, if_pos y1, zO3_at hz (k := 12 + c) (by omega) (by omega) (by omega) (by omega), if_neg (by rw [nI_ltI (by omega) (by omega)]; exact y2)]
  have c8 : m.1 8 (12 * c + i) = cC (S (16 + 12 * c + i)) := (hc.2.1.2 h9).2.1 c i y1 y2
  rw [if_pos (by rw [nI_ltI (by omega) (by omega)]; exact y2), c8] at hL
  have hz16 : ∀ m' : rn_Mem, zO3 S (m'.1 116) → m'.1 116 (16 + 12 * c + i) = zC (S (16 + 12 * c + i)) := fun m' hz => hz.2.2.2 (16 + 12 * c + i) (by omega) (by omega)
  by_cases y3 : 16 ≤ S (16 + 12 * c + i)
  case neg =>
    refine SC_r (-2) hC ?_ fun m' hz => ?_
    · rw [hL, if_neg (show ¬ cC (S (16 + 12 * c + i)) = -4 by unfold cC; rw [if_pos (by omega), show (-4 : Int32) = mI 4 from rfl, eq_nm (by omega) (by omega) (by omega)]; exact id)]
    · rw [hM2 m' hz, if_pos y1, zO3_at hz (k := 12 + c) (by omega) (by omega) (by omega) (by omega), if_pos (by rw [nI_ltI (by omega) (by omega)]; exact y2), hz16 m' hz, if_neg (fun t => y3 (zC_lt.mp t))]
  rw [if_pos (show cC (S (16 + 12 * c + i)) = -4 by unfold cC; rw [if_neg (by omega)]; rfl)] at hL
  have hun : unS S (12 * c + i) = true := (un_ci hi).mpr ⟨⟨y1, y2⟩, y3⟩
  have hu3 : uc S ≤ 3 := (wt.2 h9).2.2.2.2
  have htu : fb_ct (unS S) (12 * c + i) < uc S := by
    rw [← un_48 wg wt h9]
    have h1 := fb_ct_succ (unS S) (12 * c + i)
    rw [if_pos hun] at h1
    have := fb_ct_mono (unS S) (show 12 * c + i + 1 ≤ 48 by omega)
    omega
  generalize eT : fb_ct (unS S) (12 * c + i) = T at htu
  obtain ⟨⟨m1, p1, p2, p3, p4⟩, hR⟩ := both_A hn hw h9 hc hC
  obtain ⟨v, u, um, a1, a2, a3, a4, a5, a6, a7, a8, hF⟩ := p2
  have hc1 : cS3 S V 3 m1 := cS3_k hc fun p hp1 hp2 => funext fun j => p4.1 p j (by omega) (by omega)
  have hah := ahead_sp (nf := n) (by omega) wg wt hc1 h9 y1 y2 (by rw [eT]; omega)
  rw [eT] at hah
  rw [p1, Option.bind_some, hah, Option.bind_some] at hL
  try simp only [] at hL
  rw [if_pos ((in_n (by omega)).mpr (by omega)), nI_n (by omega), (a8 T (by omega)).1] at hL
  refine ⟨_, m1, hL, p3, p4, fun m' hz => ?_⟩
  obtain ⟨m2, m3, b1, b2, b3, b4, b5, b6⟩ := hR m' hz
  have loop : ∀ (d t nf : Nat), t + d = T → d < nf → mo_under_l92 (nI c) (nI i) nf (nI t) m3 = some (.inl (m3.1 121 T, m3)) := by
    intro d
    induction d with
    | zero =>
      intro t nf e1 e2
      obtain ⟨nf, rfl⟩ : ∃ k, nf = k + 1 := ⟨nf - 1, by omega⟩
      obtain rfl : t = T := by omega
      have h125 : m3.1 125 t = nI (12 * c + i) := by
        rw [b4.2.2.2.2.1 t htu, ← eT, nth_of hun (by omega)]
      rw [mo_under_l92, b4.2.2.1, if_pos (by rw [nI_ltI (by omega) (by omega)]; exact htu)]
      simp only [if_pos (show rn_in (nI t) 3 = true from (in_n (by omega)).mpr (by omega)), nI_n (show t < 2 ^ 31 by omega)]
      rw [h125, if_pos (by rw [show (12 : Int32) = nI 12 from rfl, pk_mul, nI_add])]
    | succ d ih =>
      intro t nf e1 e2
      obtain ⟨nf, rfl⟩ : ∃ k, nf = k + 1 := ⟨nf - 1, by omega⟩
      obtain ⟨n1, n2, n3⟩ := nth_sp (p := unS S) (s := t) (N := 48) (by rw [un_48 wg wt h9]; omega)
      rw [mo_under_l92, b4.2.2.1, if_pos (by rw [nI_ltI (by omega) (by omega)]; omega)]
      simp only [if_pos (show rn_in (nI t) 3 = true from (in_n (by omega)).mpr (by omega)), nI_n (show t < 2 ^ 31 by omega)]
      rw [b4.2.2.2.2.1 t (by omega), if_neg (by rw [show (12 : Int32) = nI 12 from rfl, pk_mul, nI_add, nI_eq (by omega) (by omega)]; exact fun e => by rw [e] at n3; omega), nI_1, Option.bind_some]
      exact ih (t + 1) nf (by omega) (by omega)
  refine ⟨m3, ?_, b3⟩
  rw [hM2 m' hz, if_pos y1, zO3_at hz (k := 12 + c) (by omega) (by omega) (by omega) (by omega), if_pos (by rw [nI_ltI (by omega) (by omega)]; exact y2), hz16 m' hz, if_pos (zC_lt.mpr y3), b1, Option.bind_some, b2, Option.bind_some, show mo_under_l92 (nI c) (nI i) n 0 m3 = _ from loop T 0 n (by omega) (by omega), Option.bind_some]
  obtain ⟨v', v1, v2⟩ := b5.2.2.2.1 T htu
  suffices hv : v' = um T by
    show some (m3.1 121 T, m3) = _
    rw [v2, hv]
  refine ms_eq v1 (a8 T (by omega)).2 fun x hx => ?_
  have e : v'.testBit x = true ↔ TA S (1, T, x) m3 := ⟨fun h => ⟨htu, v', v1, v2, h⟩, fun ⟨_, v'', a1, a2, a3⟩ => by
    rw [v2, nI_eq (by omega) (by omega)] at a2
    rw [a2]; exact a3⟩
  rw [e, b6, hF.2.2.2.2.2 T x (by omega), UD_e (by omega)]
  constructor
  · rintro ⟨r, w, q, h1, h2, h3, h4⟩
    exact ⟨h3, r, h1, ⟨w, q, h2⟩, h4⟩
  · rintro ⟨h3, r, h1, ⟨w, q, h2⟩, h4⟩
    exact ⟨r, w, q, h1, h2, h3, h4⟩
