/-! ALL CALLS: set and clue once more, with what else they leave -/
theorem C_set2 (S V : Nat → Nat) (m : rn_Mem) (hw : WF S) (hc : cSt S V 3 m) (a b : Int32) :
    (∃ r, (∀ n, lt_set n a b m = some (r, m)) ∧ ∀ n m1, zOK S (m1.1 116) → mo_set n a b m1 = some (r, m1)) ∨
    (∃ S2 m1, (∀ n, lt_set n a b m = some (1, m1)) ∧ WF S2 ∧ cSt S2 V 3 m1 ∧ S2 11 = 0 ∧ m1.1 0 8 = 0 ∧ Kq Pse m m1 ∧ ∀ n m', zOK S (m'.1 116) → ∃ m2, mo_set n a b m' = some (1, m2) ∧ zOK S2 (m2.1 116) ∧ Kr (fun p => p = 116) m' m2) := by
  obtain ⟨⟨g0, g1⟩, c2, c3, c4⟩ := hc
  by_cases hl : Lw a b
  case neg =>
    refine Or.inl ⟨-1, fun n => ?_, fun n m1 _ => mo_set_n hl⟩
    unfold lt_set
    rw [ga_lawful_n hl]
    rfl
  rcases S0_01 hw with h0 | h0
  · refine Or.inl ⟨-2, fun n => ?_, fun n m1 hz => ?_⟩
    · unfold lt_set
      rw [ga_lawful_y hl]
      simp only [Option.bind_some]
      rw [if_neg (by decide), if_pos (by rw [g0, h0]; rfl)]
    · have hz0 : m1.1 116 0 = 0 := by rw [zOK_at hz (by omega) (by omega) (by omega) (by omega), h0]; rfl
      unfold mo_set
      rcases hl with ⟨rfl, h⟩ | ⟨rfl, h⟩ | ⟨rfl, h⟩ | ⟨rfl, h⟩ | ⟨rfl, h⟩
      · simp only [if_true, Option.bind_some, mo_in_j, Int32.toInt_toInt64, j0, j1, j2, j3, j7, j8, j11, j12, j15, j29, jm1, t0, t1, t2, t3, t4, t5, t6, t7, t11, t12, t15, t16, t30, t65535, tm1]
        rw [if_neg (by decide), if_neg (b10 h), if_pos hz0]
      · simp only [if_neg (show ¬ (4 : Int32) = 3 by decide), if_neg (show ¬ (4 : Int32) = 7 by decide), if_true, Option.bind_some, mo_in_j, Int32.toInt_toInt64, j0, j1, j2, j3, j7, j8, j11, j12, j15, j29, jm1, t0, t1, t2, t3, t4, t5, t6, t7, t11, t12, t15, t16, t30, t65535, tm1]
        rw [if_neg (by decide), if_neg (b10 h), if_pos hz0]
      · simp only [if_neg (show ¬ (5 : Int32) = 3 by decide), if_neg (show ¬ (5 : Int32) = 7 by decide), if_neg (show ¬ (5 : Int32) = 4 by decide), Option.bind_some, mo_in_j, Int32.toInt_toInt64, j0, j1, j2, j3, j7, j8, j11, j12, j15, j29, jm1, t0, t1, t2, t3, t4, t5, t6, t7, t11, t12, t15, t16, t30, t65535, tm1]
        rw [if_neg (by decide), if_neg (b10 h), if_pos hz0]
      · simp only [if_neg (show ¬ (6 : Int32) = 3 by decide), if_neg (show ¬ (6 : Int32) = 7 by decide), if_neg (show ¬ (6 : Int32) = 4 by decide), Option.bind_some, mo_in_j, Int32.toInt_toInt64, j0, j1, j2, j3, j7, j8, j11, j12, j15, j29, jm1, t0, t1, t2, t3, t4, t5, t6, t7, t11, t12, t15, t16, t30, t65535, tm1]
        rw [if_neg (by decide), if_neg (b10 h), if_pos hz0]
      · simp only [if_neg (show ¬ (7 : Int32) = 3 by decide), if_true, Option.bind_some, mo_in_j, Int32.toInt_toInt64, j0, j1, j2, j3, j7, j8, j11, j12, j15, j29, jm1, t0, t1, t2, t3, t4, t5, t6, t7, t11, t12, t15, t16, t30, t65535, tm1]
        rw [if_neg (by decide), if_neg (b10 h), if_pos hz0]
  obtain ⟨wg, wt, wc, wr⟩ := WF_1 hw h0
  obtain ⟨e1, e2, e3, e4, e5, e6, e7, e8⟩ := g1 h0
  have hg1 : m.1 4 0 = 1 := by rw [g0, h0]; rfl
  have hg0 : ¬ m.1 4 0 = 0 := by rw [hg1]; decide
  by_cases h7 : a = 7 ∧ ¬ b < nI (S 1)
  · obtain ⟨rfl, h7⟩ := h7
    refine Or.inl ⟨-1, fun n => ?_, fun n m1 hz => ?_⟩
    · unfold lt_set
      rw [ga_lawful_y hl]
      simp only [Option.bind_some]
      rw [if_neg (by decide), if_neg hg0, if_pos trivial, if_neg (by rw [show m.1 4 1 = nI (S 1) from e1]; exact h7)]
    · have hz0 : ¬ m1.1 116 0 = 0 := by rw [zOK_at hz (by omega) (by omega) (by omega) (by omega), h0]; decide
      have hz1 : m1.1 116 1 = nI (S 1) := zOK_at hz (by omega) (by omega) (by omega) (by omega)
      have hb : -1 ≤ b.toInt ∧ b.toInt ≤ 3 := by
        rcases hl with h | h | h | h | h
        · exact absurd h.1 (by decide)
        · exact absurd h.1 (by decide)
        · exact absurd h.1 (by decide)
        · exact absurd h.1 (by decide)
        · exact h.2
      unfold mo_set
      simp only [if_neg (show ¬ (7 : Int32) = 3 by decide), if_true, Option.bind_some, mo_in_j, Int32.toInt_toInt64, j0, j1, j2, j3, j7, j8, j11, j12, j15, j29, jm1, t0, t1, t2, t3, t4, t5, t6, t7, t11, t12, t15, t16, t30, t65535, tm1]
      rw [if_neg (by decide), if_neg (b10 hb), if_neg hz0, if_neg (by rw [hz1]; exact h7)]
  have hlt : a = 7 → b < nI (S 1) := fun h => Classical.not_not.mp fun q => h7 ⟨h, q⟩
  obtain ⟨w, w1, w2, w3, w4⟩ := lt_set_y (n := 0) hl hg1 (by rw [show m.1 4 1 = nI (S 1) from e1]; exact hlt)
  -- the number kept
  have hb : -1 ≤ b.toInt ∧ b.toInt ≤ 3 ∧ (w ≠ 4 → w ≠ 8 → 0 ≤ b.toInt) ∧ (w = 5 → b.toInt ≤ 2) ∧ (w = 6 → b.toInt ≤ 1) ∧ (w = 7 → b.toInt ≤ 1) := by
    have hw' : ∀ k, k < 2 ^ 31 → a = nI k → w = k + 1 := by
      intro k hk h
      rw [w3, nI_eq (by omega) hk] at h
      omega
    rcases hl with h | h | h | h | h
    · have := hw' 3 (by omega) h.1; omega
    · have := hw' 4 (by omega) h.1; omega
    · have := hw' 5 (by omega) h.1; omega
    · have := hw' 6 (by omega) h.1; omega
    · have := hw' 7 (by omega) h.1; omega
  obtain ⟨v, v1, v2, v3, v4⟩ : ∃ v, (0 ≤ b.toInt → b = nI v ∧ v < 4 ∧ (v : Int) = b.toInt) ∧ (b.toInt < 0 → v = 4) ∧ cT v = b ∧ zT v = (if b < 0 then -4 else b) := by
    by_cases g : 0 ≤ b.toInt
    · obtain ⟨j, hj, rfl⟩ := i_nat (x := b) (k := 4) g (by omega)
      refine ⟨j, fun _ => ⟨rfl, hj, by rw [nI_int (by omega)]⟩, fun q => by omega, ?_, ?_⟩
      · unfold cT; rw [if_pos hj]
      · unfold zT; rw [if_pos hj, if_neg (by rw [i_lt, t0]; omega)]
    · have hb1 : b = mI 1 := by rw [i_eq, mI_int (by omega)]; omega
      refine ⟨4, fun q => absurd q g, fun _ => rfl, ?_, ?_⟩
      · rw [hb1]; rfl
      · rw [if_pos (by rw [i_lt, t0]; omega)]; decide
  have ew : sv (sv S w v) 11 0 w = v := by rw [sv_n (by omega), sv_s]
  have eo : ∀ k, k ≠ w → k ≠ 11 → sv (sv S w v) 11 0 k = S k := fun k q1 q2 => by rw [sv_n q2, sv_n q1]
  have e11 : sv (sv S w v) 11 0 11 = 0 := sv_s
  have hvb : w = 8 → v < S 1 ∨ v = 4 := by
    intro h8
    by_cases g : 0 ≤ b.toInt
    · left
      have h2 := hlt (by rw [w3, h8]; rfl)
      have h3 := v1 g
      rw [i_lt, nI_int (by have := wg.2.1; omega)] at h2
      omega
    · exact Or.inr (v2 (by omega))
  have hv4 : v ≤ 4 := by
    by_cases g : 0 ≤ b.toInt
    · have := (v1 g).2.1; omega
    · have := v2 (by omega); omega
  have hnv : w ≠ 4 → w ≠ 8 → b = nI v ∧ (v : Int) = b.toInt := fun q1 q2 => ⟨(v1 (hb.2.2.1 q1 q2)).1, (v1 (hb.2.2.1 q1 q2)).2.2⟩
  have wg2 : WG (sv (sv S w v) 11 0) := WG_set wg ⟨w1, w2⟩ ⟨fun _ => hv4, fun q => by have := hnv (by omega) (by omega); have := hb.2.2.2.1 q; omega, fun q => by have := hnv (by omega) (by omega); have := hb.2.2.2.2.1 q; omega, fun q => by have := hnv (by omega) (by omega); have := hb.2.2.2.2.2 q; omega, hvb⟩
  refine Or.inr ⟨sv (sv S w v) 11 0, rm_i (rm_i (rm_i m 4 w b) 14 0 0) 0 8 0, fun n => ?_, ?_, ?_, e11, ?_, ?_, ?_⟩
  · obtain ⟨w', w1', w2', w3', w4'⟩ := lt_set_y (n := n) hl hg1 (by rw [show m.1 4 1 = nI (S 1) from e1]; exact hlt)
    have : w' = w := by rw [w3, nI_eq (by omega) (by omega)] at w3'; omega
    rw [w4', this]
  · refine Or.inr ⟨by rw [eo 0 (by omega) (by omega), h0], wg2, WT_c (fun k hk => eo k (by omega) (by omega)) wt, WC_c (fun k hk => eo k (by omega) (by omega)) wc, ?_⟩
    unfold WR
    rw [e11]
    exact ⟨by omega, fun q => by omega⟩
  · refine ⟨⟨?_, fun _ => ?_⟩, ?_, ?_, ?_⟩
    · rw [eo 0 (by omega) (by omega)]
      simp (disch := omega) only [mi_get, mc_get, mi_2, mc_2, mj_1, mj_get, if_pos, if_neg, true_and, and_true, if_true, and_self]
      exact g0
    · have hr : ∀ j, (rm_i (rm_i (rm_i m 4 w b) 14 0 0) 0 8 0).1 (3 + 1) j = if j = w then b else m.1 4 j := by
        intro j
        simp only [mi_get]
        rw [if_neg (by omega), if_neg (by omega)]
        by_cases q : j = w
        · rw [if_pos ⟨trivial, q⟩, if_pos q]
        · rw [if_neg (fun z => q z.2), if_neg q]
      simp only [hr]
      rw [if_neg (show ¬ 1 = w by omega), if_neg (show ¬ 2 = w by omega), if_neg (show ¬ 3 = w by omega), eo 1 (by omega) (by omega), eo 2 (by omega) (by omega), eo 3 (by omega) (by omega)]
      refine ⟨e1, e2, e3, ?_, ?_, ?_, ?_, ?_⟩
      · by_cases q : 4 = w
        · rw [if_pos q, q, ew, v3]
        · rw [if_neg q, eo 4 q (by omega)]; exact e4
      · by_cases q : 5 = w
        · rw [if_pos q, q, ew]; exact (hnv (by omega) (by omega)).1
        · rw [if_neg q, eo 5 q (by omega)]; exact e5
      · by_cases q : 6 = w
        · rw [if_pos q, q, ew]; exact (hnv (by omega) (by omega)).1
        · rw [if_neg q, eo 6 q (by omega)]; exact e6
      · by_cases q : 7 = w
        · rw [if_pos q, q, ew]; exact (hnv (by omega) (by omega)).1
        · rw [if_neg q, eo 7 q (by omega)]; exact e7
      · by_cases q : 8 = w
        · rw [if_pos q, q, ew, v3]
        · rw [if_neg q, eo 8 q (by omega)]; exact e8
    · have hk : ∀ p, p ≠ 0 → p ≠ 4 → p ≠ 14 → (rm_i (rm_i (rm_i m 4 w b) 14 0 0) 0 8 0).1 p = m.1 p := by
        intro p q1 q2 q3
        funext j
        simp only [mi_get]
        rw [if_neg (by omega), if_neg (by omega), if_neg (by omega)]
      rw [hk (3 + 2) (by omega) (by omega) (by omega), hk (3 + 3) (by omega) (by omega) (by omega), hk (3 + 4) (by omega) (by omega) (by omega), hk (3 + 5) (by omega) (by omega) (by omega)]
      exact cTa_c (fun k hk => eo k (by omega) (by omega)) c2
    · have hk : ∀ p, p ≠ 0 → p ≠ 4 → p ≠ 14 → (rm_i (rm_i (rm_i m 4 w b) 14 0 0) 0 8 0).1 p = m.1 p := by
        intro p q1 q2 q3
        funext j
        simp only [mi_get]
        rw [if_neg (by omega), if_neg (by omega), if_neg (by omega)]
      rw [hk (3 + 6) (by omega) (by omega) (by omega), hk (3 + 7) (by omega) (by omega) (by omega), hk (3 + 8) (by omega) (by omega) (by omega), hk (3 + 9) (by omega) (by omega) (by omega), hk (3 + 10) (by omega) (by omega) (by omega)]
      exact cCl_c (fun k hk => eo k (by omega) (by omega)) c3
    · refine ⟨?_, fun q => by rw [e11] at q; omega⟩
      rw [e11]
      simp (disch := omega) only [mi_get, mc_get, mi_2, mc_2, mj_1, mj_get, if_pos, if_neg, true_and, and_true, if_true, and_self]
      rfl
  · simp (disch := omega) only [mi_get, mc_get, mi_2, mc_2, mj_1, mj_get, if_pos, if_neg, true_and, and_true, if_true, and_self]
  · refine ⟨fun p i hp => ?_, rfl⟩
    unfold Pse at hp
    simp only [mi_get]
    rw [if_neg (by omega), if_neg (by omega), if_neg (by omega)]
  · intro n m' hz
    have hz0 : m'.1 116 0 = 1 := by rw [zOK_at hz (by omega) (by omega) (by omega) (by omega), h0]; rfl
    have hz1 : m'.1 116 1 = nI (S 1) := zOK_at hz (by omega) (by omega) (by omega) (by omega)
    obtain ⟨w', w1', w2', w3', w4'⟩ := mo_set_y (n := n) hl hz0 (by rw [hz1]; exact hlt)
    have : w' = w := by rw [w3, nI_eq (by omega) (by omega)] at w3'; omega
    subst this
    refine ⟨_, w4', ?_, (Kr.rf.sti (by exact rfl)).sti (by exact rfl)⟩
    rw [← v4]
    have hr : ∀ j, (rm_i (rm_i m' 116 w' (zT v)) 116 11 0).1 116 j = if j = 11 then 0 else if j = w' then zT v else m'.1 116 j := by
      intro j
      simp only [mi_get, true_and]
    obtain ⟨z1, z2, z3, z4⟩ := hz
    refine ⟨fun k k1 k2 k3 k4 => ?_, ?_, ?_, fun k k1 k2 => ?_⟩
    · rw [hr]
      by_cases q : k = 11
      · rw [if_pos q, q, e11]; rfl
      · rw [if_neg q]
        by_cases q2 : k = w'
        · rw [if_pos q2, q2, ew]
          have := hnv (by omega) (by omega)
          unfold zT
          rw [if_pos ((v1 (by omega)).2.1)]
        · rw [if_neg q2, eo k q2 q]; exact z1 k k1 k2 k3 k4
    · rw [hr, if_neg (by omega)]
      by_cases q : 4 = w'
      · rw [if_pos q, q, ew]
      · rw [if_neg q, eo 4 q (by omega)]; exact z2
    · rw [hr, if_neg (by omega)]
      by_cases q : 8 = w'
      · rw [if_pos q, q, ew]
      · rw [if_neg q, eo 8 q (by omega)]; exact z3
    · rw [hr, if_neg (by omega), if_neg (by omega), eo k (by omega) (by omega)]; exact z4 k k1 k2
theorem C_clue2 (S V : Nat → Nat) (m : rn_Mem) (hw : WF S) (hc : cSt S V 3 m) (k a b c : Int32) :
    (∃ r, (∀ n, lt_clue n k a b c m = some (r, m)) ∧ ∀ n m1, zOK S (m1.1 116) → mo_clue n k a b c m1 = some (r, m1)) ∨
    (∃ r S2 m1, (∀ n, lt_clue n k a b c m = some (r, m1)) ∧ WF S2 ∧ cSt S2 V 3 m1 ∧ (∀ j, j < 10 ∨ 88 ≤ j → S2 j = S j) ∧ m1.1 0 8 = 0 ∧ Kq Pcl m m1 ∧ ∀ n m', zOK S (m'.1 116) → ∃ m2, mo_clue n k a b c m' = some (r, m2) ∧ zOK S2 (m2.1 116) ∧ Kr (fun p => p = 116) m' m2) := by
  obtain ⟨⟨g0, g1⟩, c2, ⟨c30, c31⟩, c4⟩ := hc
  by_cases hl : SD k a b c
  case neg =>
    refine Or.inl ⟨-1, fun n => ?_, fun n m1 _ => mo_clue_n hl⟩
    unfold lt_clue
    rw [cl_sound_n hl]
    rfl
  obtain ⟨k, a, b, c, rfl, rfl, rfl, rfl, hs⟩ := SD_n hl
  rcases S0_01 hw with h0 | h0
  · refine Or.inl ⟨-2, fun n => ?_, fun n m1 hz => mo_clue_0 hs (by rw [zOK_at hz (by omega) (by omega) (by omega) (by omega), h0]; rfl)⟩
    unfold lt_clue
    rw [cl_sound_y hs]
    simp only [Option.bind_some]
    rw [if_neg (by decide), if_pos (by rw [g0, h0]; rfl)]
  obtain ⟨wg, wt, wc, wr⟩ := WF_1 hw h0
  obtain ⟨e1, e2, e3, _⟩ := g1 h0
  have h6 := wc.1
  have hg0 : ¬ m.1 4 0 = 0 := by rw [show m.1 4 0 = nI (S 0) from g0, h0]; decide
  have hL : ∀ n, lt_clue n (nI k) (nI a) (nI b) (nI c) m = (cl_fits n 4 (nI k) (nI a) (nI b) (nI c) m).bind fun (r7, m6) => if r7 = 0 then some (-1, m6) else if (m6.1 9 0) < 6 then (some (rm_i m6 0 8 0)).bind fun (m11 : rn_Mem) => (cl_add n 9 (nI k) (nI a) (nI b) (nI c) m11).bind fun (r13, m12) => some (r13, m12) else some (-3, m6) := by
    intro n
    unfold lt_clue
    rw [cl_sound_y hs]
    simp only [Option.bind_some]
    rw [if_neg (by decide), if_neg hg0]
  by_cases hf : Ft S k a b c
  case neg =>
    refine Or.inl ⟨-1, fun n => ?_, fun n m1 hz => (mo_clue_y hs wg h6 hz h0).2 hf⟩
    rw [hL, (cl_fits_sp hs wg e1 e2 e3).2 hf]
    rfl
  have h90 : m.1 9 0 = nI (S 10) := c30
  have hL2 : ∀ n, lt_clue n (nI k) (nI a) (nI b) (nI c) m = if nI (S 10) < 6 then (cl_add n 9 (nI k) (nI a) (nI b) (nI c) (rm_i m 0 8 0)).bind fun (r13, m12) => some (r13, m12) else some (-3, m) := by
    intro n
    rw [hL, (cl_fits_sp hs wg e1 e2 e3).1 hf]
    simp only [Option.bind_some]
    rw [if_neg (by decide), h90]
  by_cases g6 : S 10 = 6
  · refine Or.inl ⟨-3, fun n => ?_, fun n m1 hz => ?_⟩
    · rw [hL2, if_neg (by rw [k6, nI_ltI (by omega) (by omega)]; omega)]
    · rw [(mo_clue_y hs wg h6 hz h0).1 hf]
      unfold mcl
      rw [if_pos g6]
  have g6 : S 10 < 6 := by omega
  have hr : ∀ n, lt_clue n (nI k) (nI a) (nI b) (nI c) m = some (nI (S 10), rm_i (rm_i (rm_i (rm_i (rm_i (rm_i m 0 8 0) 10 (S 10) (nI k)) 11 (S 10) (nI a)) 12 (S 10) (nI b)) 13 (S 10) (nI c)) 9 0 (nI (S 10 + 1))) := by
    intro n
    rw [hL2, if_pos (by rw [k6, nI_ltI (by omega) (by omega)]; omega)]
    have q : (rm_i m 0 8 0).1 9 0 = nI (S 10) := by rw [mi_get, if_neg (by omega)]; exact h90
    unfold cl_add
    rw [q]
    simp (disch := omega) only [Option.bind_some, k6, nI_ltI, in_n, nI_n, if_pos]
    simp only [mi_get]
    simp (disch := omega) only [if_neg]
    rw [h90, nI_1]
  obtain ⟨i1, i2, i3, i4, i5⟩ := Sc_in (S := S) (k := k) (a := a) (b := b) (c := c)
  have o : ∀ j, j ≠ 10 → (j < 64 ∨ 88 ≤ j) → Sc S k a b c j = S j := fun j h1 h2 => Sc_o h1 (by omega)
  have hk : ∀ p, p ≠ 0 → (p < 9 ∨ 13 < p) → (rm_i (rm_i (rm_i (rm_i (rm_i (rm_i m 0 8 0) 10 (S 10) (nI k)) 11 (S 10) (nI a)) 12 (S 10) (nI b)) 13 (S 10) (nI c)) 9 0 (nI (S 10 + 1))).1 p = m.1 p := by
    intro p q1 q2
    funext j
    simp only [mi_get]
    rw [if_neg (by omega), if_neg (by omega), if_neg (by omega), if_neg (by omega), if_neg (by omega), if_neg (by omega)]
  refine Or.inr ⟨nI (S 10), Sc S k a b c, _, hr, Sc_WF hw h0 hs hf g6, ⟨?_, ?_, ?_, ?_⟩, fun j hj => o j (by omega) (by omega), ?_, ?_, ?_⟩
  · rw [hk (3 + 1) (by omega) (by omega)]
    unfold cGa
    simp (disch := omega) only [o]
    exact ⟨g0, g1⟩
  · rw [hk (3 + 2) (by omega) (by omega), hk (3 + 3) (by omega) (by omega), hk (3 + 4) (by omega) (by omega), hk (3 + 5) (by omega) (by omega)]
    obtain ⟨t1, t2⟩ := c2
    have h9 : Sc S k a b c 9 = S 9 := o 9 (by omega) (by omega)
    refine ⟨by rw [h9]; exact t1, fun q => ?_⟩
    rw [h9] at q
    have hn := wg.2.1
    have hH : ∀ d, d < S 1 → S (12 + d) ≤ 12 := fun d hd => hp_le wg wt q hd
    have oh : ∀ d, d < S 1 → Sc S k a b c (12 + d) = S (12 + d) := fun d hd => o _ (by omega) (by omega)
    have oc : ∀ d i, d < S 1 → i < S (12 + d) → Sc S k a b c (16 + 12 * d + i) = S (16 + 12 * d + i) := fun d i hd hi => o _ (by omega) (by have := hH d hd; omega)
    have hu : uc (Sc S k a b c) = uc S := by
      unfold uc
      rw [o 1 (by omega) (by omega)]
      refine fb_sm_cong fun d hd => ?_
      rw [oh d hd]
      exact fb_ct_cong fun i hi => by rw [oc d i hd hi]
    obtain ⟨f1, f2, f3, B, f4, f5, f6⟩ := t2 q
    rw [hu, o 1 (by omega) (by omega)]
    refine ⟨fun d hd => by rw [oh d hd]; exact f1 d hd, fun d i hd hi => ?_, f3, B, f4, f5, fun x hx => ?_⟩
    · rw [oh d hd] at hi
      rw [oc d i hd hi]; exact f2 d i hd hi
    · rw [f6 x hx]
      constructor
      · rintro ⟨d, i, hd, hi, e⟩
        exact ⟨d, i, hd, by rw [oh d hd]; exact hi, by rw [oc d i hd hi]; exact e⟩
      · rintro ⟨d, i, hd, hi, e⟩
        rw [oh d hd] at hi
        rw [oc d i hd hi] at e
        exact ⟨d, i, hd, hi, e⟩
  · refine ⟨?_, fun j hj => ?_⟩
    · rw [i5]
      simp (disch := omega) only [mi_get, mc_get, mi_2, mc_2, mj_1, mj_get, if_pos, if_neg, true_and, and_true, if_true, and_self]
    · rw [i5] at hj
      by_cases q : j = S 10
      · subst q
        rw [i1, i2, i3, i4]
        refine ⟨?_, ?_, ?_, ?_⟩ <;> (simp only [mi_get]; simp (disch := omega) only [if_neg, if_pos, true_and, and_true, if_true])
      · obtain ⟨f1, f2, f3, f4⟩ := c31 j (by omega)
        rw [Sc_o (j := 64 + 4 * j) (by omega) (by omega), Sc_o (j := 65 + 4 * j) (by omega) (by omega), Sc_o (j := 66 + 4 * j) (by omega) (by omega), Sc_o (j := 67 + 4 * j) (by omega) (by omega)]
        refine ⟨?_, ?_, ?_, ?_⟩
        · simp only [mi_get]; simp (disch := omega) only [if_neg]; exact f1
        · simp only [mi_get]; simp (disch := omega) only [if_neg]; exact f2
        · simp only [mi_get]; simp (disch := omega) only [if_neg]; exact f3
        · simp only [mi_get]; simp (disch := omega) only [if_neg]; exact f4
  · rw [hk (3 + 11) (by omega) (by omega), hk (3 + 12) (by omega) (by omega), hk (3 + 13) (by omega) (by omega), hk (3 + 14) (by omega) (by omega), hk (3 + 15) (by omega) (by omega)]
    exact cRo_c (fun j hj => o j (by omega) (by omega)) c4
  · simp (disch := omega) only [mi_get, mc_get, mi_2, mc_2, mj_1, mj_get, if_pos, if_neg, true_and, and_true, if_true, and_self]
  · refine ⟨fun p i hp => ?_, rfl⟩
    unfold Pcl at hp
    simp only [mi_get]
    rw [if_neg (by omega), if_neg (by omega), if_neg (by omega), if_neg (by omega), if_neg (by omega), if_neg (by omega)]
  · intro n m' hz
    refine ⟨_, by rw [(mo_clue_y hs wg h6 hz h0).1 hf]; unfold mcl; rw [if_neg (by omega)], ?_, ((((Kr.rf.sti (by exact rfl)).sti (by exact rfl)).sti (by exact rfl)).sti (by exact rfl)).sti (by exact rfl)⟩
    have hr2 : ∀ j, j ≠ 10 → (j < 64 + 4 * S 10 ∨ 68 + 4 * S 10 ≤ j) → (rm_i (rm_i (rm_i (rm_i (rm_i m' 116 (64 + 4 * S 10) (nI k)) 116 (65 + 4 * S 10) (nI a)) 116 (66 + 4 * S 10) (nI b)) 116 (67 + 4 * S 10) (nI c)) 116 10 (nI (S 10 + 1))).1 116 j = m'.1 116 j := by
      intro j q1 q2
      simp only [mi_get]
      rw [if_neg (by omega), if_neg (by omega), if_neg (by omega), if_neg (by omega), if_neg (by omega)]
    obtain ⟨z1, z2, z3, z4⟩ := hz
    refine ⟨fun j k1 k2 k3 k4 => ?_, ?_, ?_, fun j k1 k2 => ?_⟩
    · by_cases q : j ≠ 10 ∧ (j < 64 + 4 * S 10 ∨ 68 + 4 * S 10 ≤ j)
      · rw [hr2 j q.1 q.2, Sc_o q.1 q.2]; exact z1 j k1 k2 k3 k4
      · obtain rfl | rfl | rfl | rfl | rfl : j = 10 ∨ j = 64 + 4 * S 10 ∨ j = 65 + 4 * S 10 ∨ j = 66 + 4 * S 10 ∨ j = 67 + 4 * S 10 := by omega
        · rw [i5]; simp only [mi_get]; simp (disch := omega) only [if_neg, if_pos, true_and, and_true, if_true]
        · rw [i1]; simp only [mi_get]; simp (disch := omega) only [if_neg, if_pos, true_and, and_true, if_true]
        · rw [i2]; simp only [mi_get]; simp (disch := omega) only [if_neg, if_pos, true_and, and_true, if_true]
        · rw [i3]; simp only [mi_get]; simp (disch := omega) only [if_neg, if_pos, true_and, and_true, if_true]
        · rw [i4]; simp only [mi_get]; simp (disch := omega) only [if_neg, if_pos, true_and, and_true, if_true]
    · rw [hr2 4 (by omega) (by omega), o 4 (by omega) (by omega)]; exact z2
    · rw [hr2 8 (by omega) (by omega), o 8 (by omega) (by omega)]; exact z3
    · rw [hr2 j (by omega) (by omega), o j (by omega) (by omega)]; exact z4 j k1 k2
