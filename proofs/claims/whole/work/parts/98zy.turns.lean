/-! THE CALLS OF THE SEARCH: turned, asked of both -/
theorem turn_nd : ∀ tc, tc < 4 → ∀ n, n < 5 → ¬ nI (12 * tc) < nI (12 * tc) + (nI 0 - 1) * nI n := by decide
theorem turn_sp {S : Nat → Nat} {tc nf : Nat} {m : rn_Mem} (hnf : 100 < nf) (wg : WG S) (wt : WT S) (hS : SH S m) (htc : tc < S 1) : ∃ m2, ta_turn nf 53 (nI (S 1)) (nI tc) m = some m2 ∧ SH (STn S tc) m2 ∧ m2.2 = m.2 ∧ ∀ p, p ≠ 56 → m2.1 p = m.1 p := by
  obtain ⟨hG, h0, h9, hC, hT⟩ := hS
  have w1 := wg.1
  have w2 := wg.2.1
  have w4 : S 2 ≤ 4 := wg.2.2.2.1
  obtain ⟨t0, t1⟩ := hT
  obtain ⟨t2, t3, t4, t5⟩ := t1 h9
  have hs12 : ∀ c, c < S 1 → S (12 + c) ≤ 12 := fun c hc => sz_12 wg wt h9 hc
  have hmm : ∀ c, c < S 1 → S (12 + c) = S 1 * mmS S c := fun c hc => by
    have := (wt.2 h9).1 c hc
    unfold mmS
    rw [Nat.mul_comm]; exact this
  have hM4 : mmS S tc ≤ 4 := by
    have h1 := mm_sum wg wt h9
    have h2 := fb_sm_part (mmS S) htc
    omega
  have hnM : S 1 * mmS S tc ≤ 12 := by rw [← hmm tc htc]; exact hs12 tc htc
  have h55 : m.1 55 tc = nI (mmS S tc) := (t2 tc htc).2
  have hn : S 1 = 2 ∨ S 1 = 3 ∨ S 1 = 4 := by omega
  have hrun : ∃ m2, ta_turn nf 53 (nI (S 1)) (nI tc) m = some m2 ∧ (∀ b j, b < mmS S tc → j < S 1 → m2.1 56 (12 * tc + S 1 * b + j) = m.1 56 (12 * tc + S 1 * (mmS S tc - 1 - b) + j)) ∧ (∀ x, x < 48 → x < 12 * tc ∨ 12 * tc + S 1 * mmS S tc ≤ x → m2.1 56 x = m.1 56 x) ∧ m2.2 = m.2 ∧ ∀ p, p ≠ 56 → m2.1 p = m.1 p := by
    have head : ta_turn nf 53 (nI (S 1)) (nI tc) m = (ta_turn_l22 53 (nI (S 1)) nf (nI (12 * tc)) (nI (12 * tc) + (nI (mmS S tc) - 1) * nI (S 1)) 0 m).bind fun m24 => some m24 := by
      unfold ta_turn
      rw [show nI tc * 12 = nI (12 * tc) by rw [show (12 : Int32) = nI 12 from rfl, pk_mul, Nat.mul_comm], Option.bind_some, if_pos ((in_n (by omega)).mpr (by omega)), nI_n (by omega), show m.1 (53 + 2) tc = nI (mmS S tc) from h55, Option.bind_some]
    by_cases y : mmS S tc = 0
    · refine ⟨m, ?_, fun b j hb => by omega, fun _ _ _ => rfl, rfl, fun _ _ => rfl⟩
      obtain ⟨nf, rfl⟩ : ∃ k, nf = k + 1 := ⟨nf - 1, by omega⟩
      rw [head, y, ta_turn_l22, if_pos (by decide), if_neg (turn_nd tc (by omega) (S 1) (by omega)), Option.bind_some]
    · obtain ⟨m2, k2, r1, r2, r3, ⟨r4, r4b⟩, r5, r6⟩ := tt_l22 (n := S 1) (M := mmS S tc) (base := 12 * tc) (g := m.1 56) hn hM4 (by omega) (by omega) 3 0 nf m (by omega) (by omega) (by omega) ⟨fun b j _ _ => by rw [if_neg (by omega)], fun _ _ _ => rfl⟩
      refine ⟨m2, ?_, fun b j hb hj => ?_, r4b, r5, r6⟩
      · have e : nI (12 * tc) + (nI (mmS S tc) - 1) * nI (S 1) = nI (12 * tc + S 1 * (mmS S tc - 1)) - nI (S 1 * 0) := by
          rw [show nI (mmS S tc) - 1 = nI (mmS S tc - 1) from pk_sub (b := 1) (by omega), pk_mul, nI_add, Nat.mul_zero, pk_sub (Nat.zero_le _), Nat.sub_zero, Nat.mul_comm (S 1)]
        rw [head, e, show ta_turn_l22 53 (nI (S 1)) nf (nI (12 * tc)) (nI (12 * tc + S 1 * (mmS S tc - 1)) - nI (S 1 * 0)) 0 m = some m2 from r1, Option.bind_some]
      · rw [r4 b j hb hj]
        by_cases z : b < k2 ∨ mmS S tc - 1 - k2 < b
        · rw [if_pos z]
        · rw [if_neg z, show mmS S tc - 1 - b = b by omega]
  obtain ⟨m2, r1, r2, r3, r4, r5⟩ := hrun
  refine ⟨m2, r1, ⟨?_, by rw [STn_o (i := 0) (by omega)]; exact h0, by rw [STn_o (i := 9) (by omega)]; exact h9, ?_, ?_⟩, r4, r5⟩
  · unfold cGa at hG ⊢
    rw [r5 52 (by omega), STn_o (i := 0) (by omega), STn_o (i := 1) (by omega), STn_o (i := 2) (by omega), STn_o (i := 3) (by omega), STn_o (i := 4) (by omega), STn_o (i := 5) (by omega), STn_o (i := 6) (by omega), STn_o (i := 7) (by omega), STn_o (i := 8) (by omega)]
    exact hG
  · unfold CLm cCl at hC ⊢
    rw [r5 57 (by omega), r5 58 (by omega), r5 59 (by omega), r5 60 (by omega), r5 61 (by omega), STn_o (i := 10) (by omega)]
    refine ⟨hC.1, fun k hk => ?_⟩
    rw [STn_o (i := 64 + 4 * k) (by omega), STn_o (i := 65 + 4 * k) (by omega), STn_o (i := 66 + 4 * k) (by omega), STn_o (i := 67 + 4 * k) (by omega)]
    exact hC.2 k hk
  · unfold cTa
    rw [r5 53 (by omega), r5 54 (by omega), r5 55 (by omega), STn_o (i := 9) (by omega), STn_o (i := 1) (by omega), uc_T wg wt h9]
    refine ⟨t0, fun _ => ⟨fun c hc => ?_, fun c i hc hi => ?_, t4, ?_⟩⟩
    · rw [STn_o (i := 12 + c) (by omega)]; exact t2 c hc
    · rw [STn_o (i := 12 + c) (by omega)] at hi
      obtain ⟨a1, a2, a3⟩ := STn_c (tc := tc) wg wt h9 hc hi
      have hsc := hs12 c hc
      rw [a1, ← t3 c _ hc a2]
      by_cases y : c = tc
      · subst y
        have hda := Nat.div_add_mod i (S 1)
        have hbl : i / S 1 < mmS S c := by
          refine Classical.byContradiction fun t => ?_
          have h1 : S 1 * mmS S c ≤ S 1 * (i / S 1) := Nat.mul_le_mul_left _ (by omega)
          rw [← hmm c hc] at h1
          omega
        have := r2 (i / S 1) (i % S 1) hbl (Nat.mod_lt _ (by omega))
        rw [show 12 * c + S 1 * (i / S 1) + i % S 1 = 12 * c + i by omega] at this
        rw [this]
        unfold sgm
        rw [if_pos rfl, Nat.add_assoc]
      · rw [r3 _ (by omega) (by omega)]
        unfold sgm
        rw [if_neg y]
    · obtain ⟨B, b1, b2, b3⟩ := t5
      refine ⟨B, b1, b2, fun x hx => ?_⟩
      rw [b3 x hx]
      constructor
      · rintro ⟨c, i, h1, h2, h3⟩
        obtain ⟨a1, a2, a3⟩ := STn_c (tc := tc) wg wt h9 h1 h2
        obtain ⟨d1, _, _⟩ := STn_c (tc := tc) wg wt h9 h1 a2
        refine ⟨c, sgm S tc c i, h1, by rw [STn_o (i := 12 + c) (by omega)]; exact a2, ?_⟩
        rw [d1, a3]; exact h3
      · rintro ⟨c, i, h1, h2, h3⟩
        rw [STn_o (i := 12 + c) (by omega)] at h2
        obtain ⟨a1, a2, a3⟩ := STn_c (tc := tc) wg wt h9 h1 h2
        exact ⟨c, sgm S tc c i, h1, a2, by rw [← a1]; exact h3⟩
theorem tuN_lt {S : Nat → Nat} (wg : WG S) : tuN S < 2 ^ 4 := Nat.lt_of_lt_of_le (bm_lt _ _) (Nat.pow_le_pow_right (by decide) wg.2.1)
theorem tuc_l {S V : Nat → Nat} (wg : WG S) (wt : WT S) (wc : WC S) (h0 : S 0 = 1) (h9 : S 9 = 1) : ∀ (d c nf : Nat) (m : rn_Mem), c + d = S 1 → d + 3000 < nf → cS3 S V 3 m → ∃ m2, lt_findTurned_l4 nf (nI (bm (fun c => dcB (tuP S c)) c)) (nI c) m = some (nI (tuN S), m2) ∧ Kt m m2 := by
  have w2 := wg.2.1
  have hu : uc S < 4 := by have := (wt.2 h9).2.2.2.2; omega
  intro d
  induction d with
  | zero =>
    intro c nf m e hnf hc
    obtain ⟨nf, rfl⟩ : ∃ k, nf = k + 1 := ⟨nf - 1, by omega⟩
    obtain rfl : c = S 1 := by omega
    have c1 : m.1 4 1 = nI (S 1) := (hc.1.2 h0).1
    refine ⟨m, ?_, Kt.rf⟩
    rw [lt_findTurned_l4, c1, if_neg (by rw [nI_ltI (by omega) (by omega)]; omega)]
    rfl
  | succ d ih =>
    intro c nf m e hnf hc
    obtain ⟨nf, rfl⟩ : ∃ k, nf = k + 1 := ⟨nf - 1, by omega⟩
    have c1 : m.1 4 1 = nI (S 1) := (hc.1.2 h0).1
    obtain ⟨m2, t1, t2, t3, t4⟩ := take_sp (nf := nf) wg wt wc h0 h9 hc
    obtain ⟨m4, u1, u2, u3, u4⟩ := turn_sp (nf := nf) (tc := c) (by omega) wg wt t2 (by omega)
    obtain ⟨m6, b, f1, f2, f3, f4, f5, f6, f7, f8, f9⟩ := findsOne_sp (nf := nf) (WG_T wg) (WT_T wg wt h9) (WC_T wc) (by omega) u2
    have hb : b = true ↔ tuP S c := by
      rw [f2, LA_e (by rw [uc_T wg wt h9]; exact hu), ← tu_iff wg wt h9]
      have hk : ∀ b, rk b ≤ 0 ↔ b = 0 := fun b => by
        show 64 * cnt b + b ≤ 0 ↔ _
        constructor
        · intro h; omega
        · rintro rfl
          decide
      constructor
      · rintro ⟨r, w, q, h1, h2, h3, h4⟩
        exact ⟨r, w, q, h1, h2, h3, (hk _).mp h4⟩
      · rintro ⟨r, w, q, h1, h2, h3, h4⟩
        exact ⟨r, w, q, h1, h2, h3, (hk _).mpr h4⟩
    have kt : Kt m m6 := by
      refine ⟨fun p hp => ?_, ?_, ?_, ?_, ?_, ?_, ?_⟩
      · rw [(f9 p hp).1, (f9 p hp).2, u4 p (by omega), u3, t4 p (by omega), t3]; exact ⟨rfl, rfl⟩
      · rw [f3, u3, t3]
      · rw [f4, u4 51 (by omega), t4 51 (by omega)]
      · rw [f5, u4 51 (by omega), t4 51 (by omega)]
      · rw [f8, u4 51 (by omega), t4 51 (by omega)]
      · rw [f6, u4 68 (by omega), t4 68 (by omega)]
      · rw [f7, u4 69 (by omega), t4 69 (by omega)]
    obtain ⟨m7, g1, g2⟩ := ih (c + 1) nf m6 (by omega) (by omega) (kt.c hc)
    refine ⟨m7, ?_, kt.tr g2⟩
    rw [lt_findTurned_l4, c1, if_pos (by rw [nI_ltI (by omega) (by omega)]; omega), t1, Option.bind_some, show m2.1 4 1 = nI (S 1) by rw [t4 4 (by omega)]; exact c1, u1, Option.bind_some, f1, Option.bind_some]
    try simp only []
    rw [show (if (if b = true then (1 : Int32) else 0) = 0 then some (nI (bm (fun c => dcB (tuP S c)) c)) else (some (nI (bm (fun c => dcB (tuP S c)) c) ||| ((1 : Int32) <<< (nI c &&& 31)))).bind fun (x10 : Int32) => some x10) = some (nI (bm (fun c => dcB (tuP S c)) (c + 1))) by
      rw [bm]
      cases b with
      | true =>
        rw [if_neg (by decide), shl_1 (by omega), fa_or, Option.bind_some, if_pos (dcB_iff.mpr (hb.mp rfl))]
      | false =>
        rw [if_pos (show (if false = true then (1 : Int32) else 0) = 0 by decide), if_neg (fun t => absurd (hb.mpr (dcB_iff.mp t)) (by decide)), Nat.or_zero], Option.bind_some, nI_1, Option.bind_some]
    exact g1
theorem tum_l {S : Nat → Nat} (wg : WG S) (wt : WT S) (wc : WC S) (h9 : S 9 = 1) : ∀ (d c nf : Nat) (m : rn_Mem), c + d = S 1 → d + 405000 < nf → zO3 S (m.1 116) → (∃ t, RM S t (2 ^ S 10 - 1) false 4 m) → ∃ m2, mo_turned_l21 nf (nI (bm (fun c => dcB (tuP S c)) c)) (nI c) m = some (nI (tuN S), m2) ∧ Kpm m m2 := by
  have w2 := wg.2.1
  have hMl : 2 ^ S 10 - 1 < 2 ^ 31 := by
    have h1 : 2 ^ S 10 ≤ 2 ^ 6 := Nat.pow_le_pow_right (by decide) wc.1
    omega
  intro d
  induction d with
  | zero =>
    intro c nf m e hnf hz hR
    obtain ⟨nf, rfl⟩ : ∃ k, nf = k + 1 := ⟨nf - 1, by omega⟩
    obtain rfl : c = S 1 := by omega
    refine ⟨m, ?_, Kpm.rf⟩
    rw [mo_turned_l21, zO3_at hz (k := 1) (by omega) (by omega) (by omega) (by omega), if_neg (by rw [nI_ltI (by omega) (by omega)]; omega)]
    rfl
  | succ d ih =>
    intro c nf m e hnf hz hR
    obtain ⟨nf, rfl⟩ : ∃ k, nf = k + 1 := ⟨nf - 1, by omega⟩
    obtain ⟨tt, r1, r2, r3, r4, r5, r6, r7⟩ := hR
    generalize hm5 : rm_i m 115 7 (nI c) = m5
    have k5 : Kpm m m5 := by rw [← hm5]; exact Kpm_i (by omega)
    have hR5 : RM S c (2 ^ S 10 - 1) false 4 m5 := by
      rw [← hm5]
      unfold RM RXm
      simp (disch := omega) only [mi_get, mc_get, mi_2, mc_2, mj_1, mj_get, if_pos, if_neg, true_and, and_true, if_true, and_self]
      exact ⟨(zT_n (by omega)).symm, r2, r3, r4, r5, r6, r7⟩
    obtain ⟨m6, b, q1, q2, q3, q4⟩ := isPlay_sp (nf := nf) (m := m5) (tc := c) (by omega) wg wt wc h9 (by omega) hMl (Kpm_z k5 hz).t hR5
    have hb : b = true ↔ tuP S c := by
      rw [q4]
      unfold tuP XR GM
      constructor
      · rintro ⟨r, w, q, h1, h2, h3, h4⟩
        exact ⟨r, w, q, h1, h2, h3, bk_full.mp h4⟩
      · rintro ⟨r, w, q, h1, h2, h3, h4⟩
        exact ⟨r, w, q, h1, h2, h3, bk_full.mpr h4⟩
    have hR6 : RM S c (2 ^ S 10 - 1) false 4 m6 := by
      unfold RM RXm at hR5 ⊢
      rw [q3 6 (by omega), q3 7 (by omega), q3 8 (by omega), q3 9 (by omega), q3 10 (by omega), q3 11 (by omega), q3 12 (by omega)]
      exact hR5
    obtain ⟨m7, g1, g2⟩ := ih (c + 1) nf m6 (by omega) (by omega) (Kpm_z (k5.tr q2) hz) ⟨c, hR6⟩
    refine ⟨m7, ?_, (k5.tr q2).tr g2⟩
    rw [mo_turned_l21, zO3_at hz (k := 1) (by omega) (by omega) (by omega) (by omega), if_pos (by rw [nI_ltI (by omega) (by omega)]; omega), hm5, Option.bind_some, q1, Option.bind_some]
    try simp only []
    rw [show (if (if b = true then (1 : Int32) else 0) = 0 then some (0 : Int32) else some ((1 : Int32) <<< (nI c &&& 31))) = some (nI (if dcB (tuP S c) = true then 2 ^ c else 0)) by
      cases b with
      | true => rw [if_neg (by decide), shl_1 (by omega), if_pos (dcB_iff.mpr (hb.mp rfl))]
      | false => rw [if_pos (show (if false = true then (1 : Int32) else 0) = 0 by decide), if_neg (fun t => absurd (hb.mpr (dcB_iff.mp t)) (by decide))]; rfl, Option.bind_some, fa_or, Option.bind_some, nI_1, Option.bind_some]
    exact g1
theorem S_turned {S V : Nat → Nat} {n : Nat} {m : rn_Mem} (hn : 1000000 ≤ n) (hw : WF S) (hc : cS3 S V 3 m) (hC : CH S m) : ∃ (r : Int32) (m1 : rn_Mem), lt_turned n m = some (r, m1) ∧ CH S m1 ∧ (∀ p i, (p < 51 ∨ 101 < p) → ¬ (p = 0 ∧ (i = 8 ∨ i = 9)) → m1.1 p i = m.1 p i) ∧ (∀ p, (p < 51 ∨ 101 < p) → m1.2 p = m.2 p) ∧ ∀ m' : rn_Mem, zO3 S (m'.1 116) → ∃ m2, mo_turned n m' = some (r, m2) ∧ Kpm m' m2 := by
  have c5 : m.1 5 0 = nI (S 9) := hc.2.1.1
  rcases S9_01 hw with h9 | h9
  · refine ⟨-2, m, by rw [lt_turned, if_pos (by rw [c5, h9]; rfl)], hC, fun _ _ _ _ => rfl, fun _ _ => rfl, fun m' hz => ⟨m', ?_, Kpm.rf⟩⟩
    rw [mo_turned, if_pos (by rw [zO3_at hz (by omega) (by omega) (by omega) (by omega), h9]; rfl)]
  obtain ⟨h0, wg, wt, wc⟩ := WF_9 hw h9
  have w2 := wg.2.1
  have hM : ∀ m' : rn_Mem, zO3 S (m'.1 116) → ∃ m2, mo_turned n m' = some (nI (tuN S), m2) ∧ Kpm m' m2 := by
    intro m' hz
    obtain ⟨m2, a1, a2, a3, a4, a5⟩ := ask_sp (n := n) wc hz
    obtain ⟨m3, b1, b2⟩ := tum_l wg wt wc h9 (S 1) 0 n m2 (by omega) (by omega) (Kpm_z a2 hz) ⟨4, a3⟩
    refine ⟨m3, ?_, a2.tr b2⟩
    rw [mo_turned, if_neg (by rw [zO3_at hz (by omega) (by omega) (by omega) (by omega), h9]; decide), a1, Option.bind_some, show mo_turned_l21 n 0 0 m2 = _ from b1, Option.bind_some]
  obtain ⟨fr, a1, a2, a3, a4, a5, a6, a7⟩ := hC
  by_cases z : fr.testBit 3 = false
  · obtain ⟨m3, t1, t2⟩ := tuc_l wg wt wc h0 h9 (S 1) 0 n m (by omega) (by omega) hc
    obtain ⟨b1, b3, b4, b5, b6, b7⟩ := CH_t t2 a1 a3 a4 a5 a6 a7
    obtain ⟨o1, o2⟩ := fr_or fr a2 3 (by omega)
    generalize hmr : rm_i (rm_i m3 0 9 (nI (tuN S))) 0 8 (nI (fr ||| 2 ^ 3)) = mr
    have g1 : ∀ p, p ≠ 0 → mr.1 p = m3.1 p := fun p hp => by rw [← hmr]; funext i; rw [mi_get, if_neg (fun t => hp t.1), mi_get, if_neg (fun t => hp t.1)]
    have g2 : mr.2 = m3.2 := by rw [← hmr]; rfl
    have g9 : mr.1 0 9 = nI (tuN S) := by rw [← hmr, mi_get, if_neg (by omega), mi_get, if_pos ⟨rfl, rfl⟩]
    refine ⟨nI (tuN S), mr, ?_, ⟨fr ||| 2 ^ 3, by rw [← hmr, mi_get, if_pos ⟨rfl, rfl⟩], o2, fun h => ⟨h9, CA_k (b3 (fr_bit h (by omega))).2 (by rw [g2]) (by rw [g1 51 (by omega)]) (by rw [g1 51 (by omega)]) (by rw [g1 68 (by omega)])⟩, fun h => ⟨h9, CB_k (b4 (fr_bit h (by omega))).2 (by rw [g1 69 (by omega)])⟩, fun h => ⟨h9, CD_k (b5 (fr_bit h (by omega))).2 (by rw [g1 51 (by omega)])⟩, fun _ => ⟨h9, g9⟩, fun h => ⟨h9, ?_⟩⟩, fun p i hp hn => ?_, fun p hp => ?_, hM⟩
    · unfold lt_turned lt_findTurned
      rw [if_neg (by rw [c5, h9]; decide), a1, if_pos (show nI fr &&& 8 = 0 from (fr_and fr a2 3 (by omega)).mpr z), show lt_findTurned_l4 n 0 0 m = _ from t1, Option.bind_some]
      try simp only []
      rw [Option.bind_some]
      try simp only []
      rw [Option.bind_some, show (rm_i m3 0 9 (nI (tuN S))).1 0 8 = nI fr by rw [mi_get, if_neg (by omega)]; exact b1, show (8 : Int32) = nI (2 ^ 3) from rfl, o1, hmr, Option.bind_some, g9]
    · rw [← hmr, mi_get, if_neg (by omega), mi_get, if_neg (by omega)]
      exact (b7 (fr_bit h (by omega))).2
    · rw [← hmr, mi_get, if_neg (fun t => hn ⟨t.1, Or.inl t.2⟩), mi_get, if_neg (fun t => hn ⟨t.1, Or.inr t.2⟩), (t2.1 p hp).1]
    · rw [g2, (t2.1 p hp).2]
  · have z' : fr.testBit 3 = true := by cases h : fr.testBit 3 with | true => rfl | false => exact absurd h z
    refine ⟨nI (tuN S), m, ?_, ⟨fr, a1, a2, a3, a4, a5, a6, a7⟩, fun _ _ _ _ => rfl, fun _ _ => rfl, hM⟩
    unfold lt_turned
    rw [if_neg (by rw [c5, h9]; decide), a1, if_neg (show ¬ nI fr &&& 8 = 0 from fun y => z ((fr_and fr a2 3 (by omega)).mp y)), (a6 z').2]
