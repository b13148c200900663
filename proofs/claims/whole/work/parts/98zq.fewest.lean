/-! THE CALLS OF THE SEARCH: fewest, drops -/
theorem fe_5 {a : Int32} (h : -1 ≤ a.toInt ∧ a.toInt ≤ 3) : ∃ i : Nat, i < 5 ∧ a.toInt = (i : Int) - 1 ∧ a + 1 = nI i ∧ ∃ pc, pc ≤ 4 ∧ (i = 0 → pc = 4) ∧ (0 < i → pc = i - 1) ∧ ∀ c, c < 4 → (nI c = a ↔ c = pc) := by
  by_cases y : a.toInt = -1
  · have e : a = -1 := by
      have : a.toInt = (-1 : Int32).toInt := by rw [y]; rfl
      exact Int32.toInt_inj.mp this
    subst e
    refine ⟨0, by omega, y, rfl, 4, by omega, fun _ => rfl, fun h => by omega, fun c hc => ?_⟩
    rw [show (-1 : Int32) = mI 1 from rfl, eq_nm (by omega) (by omega) (by omega)]
    exact ⟨fun h => h.elim, fun h => by omega⟩
  · obtain ⟨k, hk, rfl⟩ := i_nat (x := a) (k := 4) (by omega) (by omega)
    refine ⟨k + 1, by omega, by rw [nI_int (by omega)]; omega, by rw [nI_1], k, by omega, fun h => by omega, fun _ => by omega, fun c hc => ?_⟩
    rw [nI_eq (by omega) (by omega)]
theorem S_fewest {S V : Nat → Nat} {n : Nat} {m : rn_Mem} (hn : 1000000 ≤ n) (hw : WF S) (hc : cS3 S V 3 m) (hC : CH S m) (a : Int32) : SC S (lt_fewest n a) (mo_fewest n a) m := by
  have c5 : m.1 5 0 = nI (S 9) := hc.2.1.1
  by_cases ha : -1 ≤ a.toInt ∧ a.toInt ≤ 3
  case neg =>
    refine SC_r (-1) hC ?_ fun m' _ => ?_
    · unfold lt_fewest
      simp only [i_lt, tm1, t4]
      by_cases q : a.toInt < -1
      · rw [if_pos q]
      · rw [if_neg q, if_neg (by omega)]
    · unfold mo_fewest
      rw [mo_in_i n a (-1) 3 (-1) 3 m' (by decide) (by decide), if_neg ha]
      rfl
  obtain ⟨i, hi, i1, i2, pc, pc4, pc0, pc1, i3⟩ := fe_5 ha
  rcases S9_01 hw with h9 | h9
  · refine SC_r (-2) hC ?_ fun m' hz => ?_
    · unfold lt_fewest
      rw [if_neg (by rw [i_lt, tm1]; omega), if_pos (by rw [i_lt, t4]; omega), if_pos (by rw [c5, h9]; rfl)]
    · unfold mo_fewest
      rw [mo_in_i n a (-1) 3 (-1) 3 m' (by decide) (by decide), if_pos ha, Option.bind_some]
      try simp only []
      rw [if_neg (by decide), if_pos (by rw [zO3_at hz (by omega) (by omega) (by omega) (by omega), h9]; rfl)]
  obtain ⟨h0, wg, wt, wc⟩ := WF_9 hw h9
  have w1 : 2 ≤ S 1 := wg.1
  have w2 : S 1 ≤ 4 := wg.2.1
  have w4 : S 2 ≤ 4 := wg.2.2.2.1
  have c1 : m.1 4 1 = nI (S 1) := (hc.1.2 h0).1
  have hlt : a < nI (S 1) ↔ i ≤ S 1 := by rw [i_lt, nI_int (by omega), i1]; omega
  by_cases y : i ≤ S 1
  case neg =>
    refine SC_r (-1) hC ?_ fun m' hz => ?_
    · unfold lt_fewest
      rw [if_neg (by rw [i_lt, tm1]; omega), if_pos (by rw [i_lt, t4]; omega), if_neg (by rw [c5, h9]; decide), c1, if_neg (fun t => y (hlt.mp t))]
    · unfold mo_fewest
      rw [mo_in_i n a (-1) 3 (-1) 3 m' (by decide) (by decide), if_pos ha, Option.bind_some]
      try simp only []
      rw [if_neg (by decide), if_neg (by rw [zO3_at hz (by omega) (by omega) (by omega) (by omega), h9]; decide), zO3_at hz (k := 1) (by omega) (by omega) (by omega) (by omega), if_neg (fun t => y (hlt.mp t))]
  obtain ⟨m1, p1, ⟨v, v1, v2⟩, p3, p4⟩ := fewest_sp (nf := n) wg wt wc h0 h9 (by omega) hc hC
  have hu : uc S < 4 := by have := (wt.2 h9).2.2.2.2; omega
  have v2' : ∀ y, v i ≤ y ↔ 99 ≤ y ∨ ∃ r w q, r < fac (uc S) ∧ LN S (XF S r) w q ∧ bkQ S (XF S r) w q (S 2) = 0 ∧ (i = 0 ∨ (byQ S (XF S r) w q (S 2)).testBit (4 * (i - 1)) = false) ∧ nbQ S (XF S r) w q (S 2) ≤ y := fun z => by rw [v2 i z y, LA_e hu]
  refine ⟨if nI (v i) = 99 then -4 else nI (v i), m1, ?_, p3, p4, fun m' hz => ?_⟩
  · unfold lt_fewest
    rw [if_neg (by rw [i_lt, tm1]; omega), if_pos (by rw [i_lt, t4]; omega), if_neg (by rw [c5, h9]; decide), c1, if_pos (hlt.mpr y)]
    try simp only []
    rw [p1, Option.bind_some, i2, if_pos ((in_n (by omega)).mpr hi), nI_n (by omega), (v1 i y).1, Option.bind_some]
    by_cases z : nI (v i) = 99
    · rw [if_pos z, if_pos z]
    · rw [if_neg z, if_neg z]
  · obtain ⟨m2, a1, a2, a3, a4, _⟩ := ask_sp (n := n) wc hz
    generalize hm11 : rm_i (rm_i (rm_i m2 115 11 1) 115 12 a) 115 13 1 = m11
    have k11 : Kpm m2 m11 := by rw [← hm11]; exact ((Kpm_i (by omega)).tr (Kpm_i (by omega))).tr (Kpm_i (by omega))
    have hM : 2 ^ S 10 - 1 < 2 ^ 31 := by
      have h1 : 2 ^ S 10 ≤ 2 ^ 6 := Nat.pow_le_pow_right (by decide) wc.1
      omega
    have hRM : RM S 4 (2 ^ S 10 - 1) true pc m11 := by
      obtain ⟨r1, r2, r3, r4, r5, r6, r7⟩ := a3
      rw [← hm11]
      unfold RM RXm
      simp (disch := omega) only [mi_get, mc_get, mi_2, mc_2, mj_1, mj_get, if_pos, if_neg, true_and, and_true, if_true, and_self]
      exact ⟨r1, r2, r3, r4, r5, i3⟩
    obtain ⟨m3, b1, b2, b3, b4⟩ := find_C (nf := n) (m := m11) (by omega) wg wt wc h9 (by omega) hM pc4 (Kpm_z (a2.tr k11) hz).t hRM (by rw [← hm11, mi_get, if_pos ⟨rfl, rfl⟩]; decide)
    have b4' : ∀ y, TCy y m3 ↔ ∃ r w q, r < fac (uc S) ∧ LN S (XF S r) w q ∧ bkQ S (XF S r) w q (S 2) = 0 ∧ (i = 0 ∨ (byQ S (XF S r) w q (S 2)).testBit (4 * (i - 1)) = false) ∧ nbQ S (XF S r) w q (S 2) ≤ y := by
      intro z
      rw [b4 z]
      have e : ∀ r, XR S 4 r = XF S r := fun r => XT_4
      have hby : ∀ r w q, (byQ S (XF S r) w q (S 2)).testBit (4 * pc) = false ↔ (i = 0 ∨ (byQ S (XF S r) w q (S 2)).testBit (4 * (i - 1)) = false) := by
        intro r w q
        by_cases z0 : i = 0
        · rw [pc0 z0]
          refine ⟨fun _ => Or.inl z0, fun _ => byQ_bit.mpr fun j hj => ?_⟩
          exact bit_high (k := 16) (cin_lt _) (by omega)
        · rw [pc1 (by omega)]
          exact ⟨Or.inr, fun h => h.resolve_left z0⟩
      constructor
      · rintro ⟨r, w, q, h1, h2, h3, h4, h5⟩
        rw [e r] at h2 h3 h4 h5
        exact ⟨r, w, q, h1, h2, bk_full.mp h3, (hby r w q).mp h4, h5⟩
      · rintro ⟨r, w, q, h1, h2, h3, h4, h5⟩
        refine ⟨r, w, q, h1, by rw [e r]; exact h2, ?_⟩
        rw [e r]
        exact ⟨bk_full.mpr h3, (hby r w q).mpr h4, h5⟩
    have h64 : ∀ r w q, nbQ S (XF S r) w q (S 2) ≤ 64 := fun r w q => Nat.le_trans nbQ_64 (by omega)
    have v99 := (v1 i y).2
    refine ⟨m3, ?_, (a2.tr k11).tr b2.m⟩
    unfold mo_fewest
    rw [mo_in_i n a (-1) 3 (-1) 3 m' (by decide) (by decide), if_pos ha, Option.bind_some]
    try simp only []
    rw [if_neg (by decide), if_neg (by rw [zO3_at hz (by omega) (by omega) (by omega) (by omega), h9]; decide), zO3_at hz (k := 1) (by omega) (by omega) (by omega) (by omega), if_pos (hlt.mpr y), a1, Option.bind_some, Option.bind_some, Option.bind_some, Option.bind_some, hm11, b1, Option.bind_some]
    suffices hs : m3.1 115 15 = if nI (v i) = 99 then -4 else nI (v i) by rw [hs]
    have e99 : nI (v i) = 99 ↔ v i = 99 := by rw [show (99 : Int32) = nI 99 from rfl, nI_eq (by omega) (by omega)]
    rcases b3 with ⟨f1, _⟩ | ⟨v', v1', v2'', _⟩
    · have hno : ¬ TCy 98 m3 := fun ⟨v', _, h, _⟩ => by
        rw [f1, show (-4 : Int32) = mI 4 from rfl, eq_mn (by omega) (by omega) (by omega)] at h
        exact h
      have : v i = 99 := by
        refine Classical.byContradiction fun t => ?_
        have h1 := (v2' 98).mp (by omega)
        exact hno ((b4' 98).mpr (h1.resolve_left (by omega)))
      rw [f1, if_pos (e99.mpr this)]
    · have ht : TCy v' m3 := ⟨v', v1', v2'', Nat.le_refl _⟩
      have h98 : v i ≤ 98 := by
        obtain ⟨r, w, q, h1, h2, h3, h4, h5⟩ := (b4' v').mp ht
        exact (v2' 98).mpr (Or.inr ⟨r, w, q, h1, h2, h3, h4, Nat.le_trans (h64 r w q) (by omega)⟩)
      have hTy : ∀ z, TCy z m3 ↔ v' ≤ z := fun z => ⟨fun ⟨x, x1, x2, x3⟩ => by
        rw [v2'', nI_eq (by omega) (by omega)] at x2
        omega, fun h => ⟨v', v1', v2'', h⟩⟩
      have hev : v' = v i := le_eq fun z => by
        by_cases hz99 : z < 99
        · rw [← hTy z, b4' z, v2' z]
          exact ⟨Or.inr, fun h => h.resolve_left (by omega)⟩
        · have h1 : v' ≤ v i := by
            rw [← hTy, b4']
            exact ((v2' (v i)).mp (Nat.le_refl _)).resolve_left (by omega)
          omega
      rw [v2'', hev, if_neg (fun t => by have := e99.mp t; omega)]
