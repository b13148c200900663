/-! TABLE: both sides -/
theorem ta_clear_l22_sp : ∀ (r k nf : Nat) (m : rn_Mem), k + r = 4 → r < nf → ∃ m2, ta_clear_l22 37 nf (nI k) m = some m2 ∧ m2.2 = m.2 ∧ ∀ q i, m2.1 q i = if (q = 38 ∨ q = 39) ∧ k ≤ i ∧ i < 4 then 0 else m.1 q i := by
  intro r
  induction r with
  | zero =>
    intro k nf m e hnf
    obtain ⟨nf, rfl⟩ : ∃ e, nf = e + 1 := ⟨nf - 1, by omega⟩
    obtain rfl : k = 4 := by omega
    refine ⟨m, ?_, rfl, fun q i => by rw [if_neg (by omega)]⟩
    unfold ta_clear_l22
    rw [if_neg (by decide)]
  | succ r ih =>
    intro k nf m e hnf
    obtain ⟨nf, rfl⟩ : ∃ e, nf = e + 1 := ⟨nf - 1, by omega⟩
    obtain ⟨m2, h1, h2, h3⟩ := ih (k + 1) nf (rm_i (rm_i m 38 k 0) 39 k 0) (by omega) (by omega)
    refine ⟨m2, ?_, by rw [h2, mi_2, mi_2], fun q i => ?_⟩
    · have hin : rn_in (nI k) 4 = true := (in_n (by omega)).mpr (by omega)
      unfold ta_clear_l22
      rw [if_pos (by rw [k4, nI_ltI (by omega) (by omega)]; omega)]
      simp only [Option.bind_some, if_pos hin]
      rw [nI_n (by omega), nI_1]
      exact h1
    · rw [h3, mi_get, mi_get]
      by_cases e3 : (q = 38 ∨ q = 39) ∧ k + 1 ≤ i ∧ i < 4
      · simp (disch := omega) only [if_pos, if_neg]
      · by_cases e4 : q = 39 ∧ i = k
        · simp (disch := omega) only [if_pos, if_neg]
        · by_cases e5 : q = 38 ∧ i = k
          · simp (disch := omega) only [if_pos, if_neg]
          · simp (disch := omega) only [if_pos, if_neg]
def A0 : Nat → Nat := fun _ => 0
theorem IV_0 (S : Nat → Nat) : IV S A0 0 0 0 := by
  refine ⟨fb_sm_0 _, fun d i _ hi => absurd hi (Nat.not_lt_zero i), fun c i d j _ hi => absurd hi (Nat.not_lt_zero i), fb_sm_0 _, by omega, by omega, fun x hx => ?_⟩
  rw [Nat.zero_testBit]
  exact ⟨fun z => (by cases z), fun ⟨d, i, _, hi, _⟩ => absurd hi (Nat.not_lt_zero i)⟩
theorem ta_clear_sp {S : Nat → Nat} {nf : Nat} {m : rn_Mem} (hnf : 10 < nf) : ∃ m2, ta_clear nf 37 m = some m2 ∧ CT S A0 0 0 0 m2 ∧ Kq Pct m m2 ∧ m2.1 1 2 = m.1 1 2 := by
  obtain ⟨m2, h1, h2, h3⟩ := ta_clear_l22_sp 4 0 nf (rm_i (rm_i (rm_i (rm_i m 37 0 1) 37 4 0) 37 5 0) 37 6 0) (by omega) (by omega)
  refine ⟨m2, ?_, ⟨?_, ?_, ?_, ?_, fun d hd => ⟨?_, ?_⟩, fun d i _ hi => absurd hi (Nat.not_lt_zero i)⟩, ⟨fun p i hp => ?_, by rw [h2]; rfl⟩, ?_⟩
  · unfold ta_clear
    simp only [Option.bind_some]
    rw [show ta_clear_l22 37 nf 0 _ = some m2 from h1]
    rfl
  · simp (disch := omega) only [h3, mi_get, if_pos, if_neg, true_and, and_true, if_true, and_self]
  · simp (disch := omega) only [h3, mi_get, if_pos, if_neg, true_and, and_true, if_true, and_self]; rfl
  · simp (disch := omega) only [h3, mi_get, if_pos, if_neg, true_and, and_true, if_true, and_self]; rfl
  · simp (disch := omega) only [h3, mi_get, if_pos, if_neg, true_and, and_true, if_true, and_self]; rfl
  · rw [h3, if_pos (by omega)]; rfl
  · rw [h3, if_pos (by omega)]
    show _ = nI (0 / S 1)
    rw [Nat.zero_div]; rfl
  · unfold Pct at hp
    simp (disch := omega) only [h3, mi_get, if_pos, if_neg]
  · simp (disch := omega) only [h3, mi_get, if_pos, if_neg]
theorem table_l68_sp {A : Nat → Nat} {c : Nat} (hc : c < 4) (hA : A (12 + c) ≤ 12) : ∀ (r i nf : Nat) (m : rn_Mem), i + r = A (12 + c) → r < nf → m.1 118 c = nI (A (12 + c)) → ∃ m2, mo_table_l68 (nI c) nf (nI i) m = some m2 ∧ m2.2 = m.2 ∧ ∀ q j, m2.1 q j = if q = 116 ∧ 16 + 12 * c + i ≤ j ∧ j < 16 + 12 * c + A (12 + c) then m.1 118 (j - 12) else m.1 q j := by
  intro r
  induction r with
  | zero =>
    intro i nf m e hnf h
    obtain ⟨nf, rfl⟩ : ∃ e, nf = e + 1 := ⟨nf - 1, by omega⟩
    refine ⟨m, ?_, rfl, fun q j => by rw [if_neg (by omega)]⟩
    unfold mo_table_l68
    rw [if_pos ((in_n (by omega)).mpr (by omega)), nI_n (by omega), h, if_neg (by rw [nI_ltI (by omega) (by omega)]; omega)]
  | succ r ih =>
    intro i nf m e hnf h
    obtain ⟨nf, rfl⟩ : ∃ e, nf = e + 1 := ⟨nf - 1, by omega⟩
    obtain ⟨m2, h1, h2, h3⟩ := ih (i + 1) nf (rm_i m 116 (16 + 12 * c + i) (m.1 118 (4 + 12 * c + i))) (by omega) (by omega) (by rw [mi_get, if_neg (by omega)]; exact h)
    refine ⟨m2, ?_, by rw [h2, mi_2], fun q j => ?_⟩
    · unfold mo_table_l68
      rw [if_pos ((in_n (by omega)).mpr (by omega)), nI_n (by omega), h, if_pos (by rw [nI_ltI (by omega) (by omega)]; omega), k4, k12, k16, pk_mul, nI_add, nI_add, nI_add, nI_add, if_pos ((in_n (by omega)).mpr (by omega)), if_pos ((in_n (by omega)).mpr (by omega)), nI_n (by omega), nI_n (by omega)]
      simp only [Option.bind_some]
      rw [nI_1]
      exact h1
    · rw [h3, mi_get, mi_get]
      by_cases e1 : q = 116 ∧ j = 16 + 12 * c + i
      · rw [if_neg (by omega), if_pos e1, if_pos (by omega), show j - 12 = 4 + 12 * c + i by omega]
      · by_cases e2 : q = 116 ∧ 16 + 12 * c + (i + 1) ≤ j ∧ j < 16 + 12 * c + A (12 + c)
        · rw [if_pos e2, if_neg (by omega), if_pos (by omega)]
        · rw [if_neg e2, if_neg e1, if_neg (by omega)]
theorem table_l41_sp {A : Nat → Nat} {n : Nat} (hn4 : n ≤ 4) (hA : ∀ d, d < n → A (12 + d) ≤ 12) : ∀ (r c nf : Nat) (m : rn_Mem), c + r = n → r + 20 < nf → m.1 116 1 = nI n → (∀ d, d < n → m.1 118 d = nI (A (12 + d))) → ∃ m2, mo_table_l41 nf (nI c) m = some m2 ∧ m2.2 = m.2 ∧ (∀ p, p ≠ 116 → m2.1 p = m.1 p) ∧ (∀ d i, d < n → i < 12 → m2.1 116 (16 + 12 * d + i) = if c ≤ d ∧ i < A (12 + d) then m.1 118 (4 + 12 * d + i) else m.1 116 (16 + 12 * d + i)) ∧ (∀ d, d < n → m2.1 116 (12 + d) = if c ≤ d then nI (A (12 + d)) else m.1 116 (12 + d)) ∧ ∀ j, (j < 12 ∨ (12 + n ≤ j ∧ j < 16) ∨ 16 + 12 * n ≤ j) → m2.1 116 j = m.1 116 j := by
  intro r
  induction r with
  | zero =>
    intro c nf m e hnf h1 h2
    obtain ⟨nf, rfl⟩ : ∃ e, nf = e + 1 := ⟨nf - 1, by omega⟩
    refine ⟨m, ?_, rfl, fun _ _ => rfl, fun d i hd hi => by rw [if_neg (by omega)], fun d hd => by rw [if_neg (by omega)], fun j hj => rfl⟩
    unfold mo_table_l41
    rw [h1, if_neg (by rw [nI_ltI (by omega) (by omega)]; omega)]
  | succ r ih =>
    intro c nf m e hnf h1 h2
    obtain ⟨nf, rfl⟩ : ∃ e, nf = e + 1 := ⟨nf - 1, by omega⟩
    have hAc := hA c (by omega)
    obtain ⟨m1, a1, a2, a3⟩ := table_l68_sp (A := A) (c := c) (by omega) hAc (A (12 + c)) 0 nf (rm_i m 116 (12 + c) (nI (A (12 + c)))) (by omega) (by omega) (by rw [mi_get, if_neg (by omega)]; exact h2 c (by omega))
    obtain ⟨m2, b1, b2, b3, b4, b5, b6⟩ := ih (c + 1) nf m1 (by omega) (by omega) (by rw [a3, if_neg (by omega), mi_get, if_neg (by omega)]; exact h1) (fun d hd => by rw [a3, if_neg (by omega), mi_get, if_neg (by omega)]; exact h2 d hd)
    have e118 : ∀ j, m1.1 118 j = m.1 118 j := fun j => by rw [a3, if_neg (by omega), mi_get, if_neg (by omega)]
    refine ⟨m2, ?_, by rw [b2, a2, mi_2], fun p hp => ?_, fun d i hd hi => ?_, fun d hd => ?_, fun j hj => ?_⟩
    · unfold mo_table_l41
      rw [h1, if_pos (by rw [nI_ltI (by omega) (by omega)]; omega), if_pos ((in_n (by omega)).mpr (by omega)), k12, nI_add, if_pos ((in_n (by omega)).mpr (by omega)), nI_n (by omega), nI_n (by omega), h2 c (by omega)]
      simp only [Option.bind_some]
      rw [show mo_table_l68 (nI c) nf 0 _ = some m1 from a1]
      simp only [Option.bind_some]
      rw [nI_1]
      exact b1
    · rw [b3 p hp]
      funext j
      rw [a3, if_neg (fun z => hp z.1), mi_get, if_neg (fun z => hp z.1)]
    · have hAd := hA d hd
      have e116 : m1.1 116 (16 + 12 * d + i) = if d = c ∧ i < A (12 + c) then m.1 118 (4 + 12 * d + i) else m.1 116 (16 + 12 * d + i) := by
        rw [a3]
        by_cases q : d = c ∧ i < A (12 + c)
        · rw [if_pos (by omega), if_pos q, mi_get, if_neg (by omega), show 16 + 12 * d + i - 12 = 4 + 12 * d + i by omega]
        · rw [if_neg (by omega), if_neg q, mi_get, if_neg (by omega)]
      rw [b4 d i hd hi, e118, e116]
      by_cases q1 : d = c
      · subst q1
        by_cases q2 : i < A (12 + d)
        · rw [if_neg (by omega), if_pos ⟨rfl, q2⟩, if_pos ⟨Nat.le_refl d, q2⟩]
        · rw [if_neg (by omega), if_neg (fun z => q2 z.2), if_neg (fun z => q2 z.2)]
      · by_cases q2 : c ≤ d ∧ i < A (12 + d)
        · rw [if_pos (by omega), if_pos q2]
        · rw [if_neg (by omega), if_neg (fun z => q1 z.1), if_neg q2]
    · rw [b5 d hd]
      by_cases q1 : d = c
      · subst q1
        rw [if_neg (by omega), a3, if_neg (by omega), mi_get, if_pos ⟨rfl, rfl⟩, if_pos (by omega)]
      · by_cases q2 : c ≤ d
        · rw [if_pos (by omega), if_pos q2]
        · rw [if_neg (by omega), if_neg q2, a3, if_neg (by omega), mi_get, if_neg (by omega)]
    · rw [b6 j hj, a3, if_neg (by omega), mi_get, if_neg (by omega)]
def St (S A : Nat → Nat) : Nat → Nat := fun j => if j = 9 then 1 else if 12 ≤ j ∧ j < 12 + S 1 then A j else if (16 ≤ j ∧ j < 64) ∧ (j - 16) / 12 < S 1 ∧ (j - 16) % 12 < A (12 + (j - 16) / 12) then A j else S j
theorem St_s {S A : Nat → Nat} {d : Nat} (hd : d < S 1) (h4 : S 1 ≤ 4) : St S A (12 + d) = A (12 + d) := by
  unfold St
  rw [if_neg (by omega), if_pos (by omega)]
theorem St_c {S A : Nat → Nat} {d i : Nat} (hd : d < S 1) (h4 : S 1 ≤ 4) (hi : i < 12) : St S A (16 + 12 * d + i) = if i < A (12 + d) then A (16 + 12 * d + i) else S (16 + 12 * d + i) := by
  unfold St
  rw [if_neg (by omega), if_neg (by omega), show (16 + 12 * d + i - 16) / 12 = d by omega, show (16 + 12 * d + i - 16) % 12 = i by omega]
  by_cases q : i < A (12 + d)
  · rw [if_pos (by omega), if_pos q]
  · rw [if_neg (fun z => q z.2.2), if_neg q]
theorem St_o {S A : Nat → Nat} {j : Nat} (h4 : S 1 ≤ 4) (hj : j < 9 ∨ j = 10 ∨ j = 11 ∨ (12 + S 1 ≤ j ∧ j < 16) ∨ (16 + 12 * S 1 ≤ j)) : St S A j = S j := by
  unfold St
  rw [if_neg (by omega), if_neg (by omega), if_neg (by omega)]
def Pt0 (p i : Nat) : Prop := (37 ≤ p ∧ p ≤ 40) ∨ p = 118 ∨ (p = 1 ∧ (i = 1 ∨ i = 2)) ∨ (p = 115 ∧ (i = 2 ∨ i = 3))
def Pt1 (p i : Nat) : Prop := Pt0 p i ∨ p = 116 ∨ (5 ≤ p ∧ p ≤ 8) ∨ (p = 0 ∧ i = 8)
theorem St_WF {S A : Nat → Nat} {all u M : Nat} (hw : WF S) (h0 : S 0 = 1) (hI : IV S A all u M) (hall : all = S 1 * S 2) (hwh : ∀ d, d < S 1 → A (12 + d) = A (12 + d) / S 1 * S 1) : WF (St S A) ∧ uc (St S A) = u := by
  obtain ⟨wg, wt, wc, wr⟩ := WF_1 hw h0
  obtain ⟨w1, w2, w3, w4, w5, w6, w7, w8, w9, w10, w11, w12⟩ := wg
  have sz : ∀ d, d < S 1 → A (12 + d) ≤ 12 := fun d hd => by have := IV_sz hI hd; omega
  have so : ∀ j, (j < 9 ∨ j = 10 ∨ j = 11 ∨ 64 ≤ j) → St S A j = S j := fun j hj => St_o w2 (by omega)
  have ss : ∀ d, d < S 1 → St S A (12 + d) = A (12 + d) := fun d hd => St_s hd w2
  have sc : ∀ d i, d < S 1 → i < A (12 + d) → St S A (16 + 12 * d + i) = A (16 + 12 * d + i) := fun d i hd hi => by
    have := sz d hd
    rw [St_c hd w2 (by omega), if_pos hi]
  obtain ⟨i1, i2, i3, i4, i5, i6, i7⟩ := hI
  have huc : uc (St S A) = u := by
    unfold uc
    rw [so 1 (by omega), ← i4]
    refine fb_sm_cong fun d hd => ?_
    rw [ss d hd]
    exact fb_ct_cong fun i hi => by rw [sc d i hd hi]
  refine ⟨Or.inr ⟨by rw [so 0 (by omega)]; exact h0, ?_, ⟨Nat.le_refl 1, fun _ => ⟨?_, ?_, ?_, ?_, ?_⟩⟩, ⟨?_, ?_⟩, ?_⟩, huc⟩
  · unfold WG
    rw [so 1 (by omega), so 2 (by omega), so 3 (by omega), so 4 (by omega), so 5 (by omega), so 6 (by omega), so 7 (by omega), so 8 (by omega)]
    exact ⟨w1, w2, w3, w4, w5, w6, w7, w8, w9, w10, w11, w12⟩
  · intro d hd
    rw [so 1 (by omega)] at hd ⊢
    rw [ss d hd]
    exact hwh d hd
  · rw [so 1 (by omega), so 2 (by omega), ← hall, ← i1]
    exact fb_sm_cong fun d hd => ss d hd
  · intro d i hd hi
    rw [so 1 (by omega)] at hd
    rw [ss d hd] at hi
    rw [sc d i hd hi, so 3 (by omega)]
    exact i2 d i hd hi
  · intro c i d j hc hi hd hj hlt he
    rw [so 1 (by omega)] at hc hd
    rw [ss c hc] at hi
    rw [ss d hd] at hj
    rw [sc c i hc hi] at hlt he
    rw [sc d j hd hj] at he
    exact i3 c i d j hc hi hd hj hlt he
  · rw [huc]; exact i5
  · rw [so 10 (by omega)]; exact wc.1
  · intro k hk
    rw [so 10 (by omega)] at hk
    have := wc.2 k hk
    unfold WK at this ⊢
    rw [so 1 (by omega), so 2 (by omega), so 3 (by omega), so (64 + 4 * k) (by omega), so (65 + 4 * k) (by omega), so (66 + 4 * k) (by omega), so (67 + 4 * k) (by omega)]
    exact this
  · unfold WR at wr ⊢
    rw [so 11 (by omega), so 1 (by omega), so 2 (by omega), so 3 (by omega), so 88 (by omega)]
    refine ⟨wr.1, fun h => ⟨(wr.2 h).1, fun i hi => ?_, fun i j hi hj he => ?_⟩⟩
    · rw [so (89 + i) (by omega)]; exact (wr.2 h).2.1 i hi
    · rw [so (89 + i) (by omega), so (89 + j) (by omega)] at he
      exact (wr.2 h).2.2 i j hi hj he
theorem L_table {n : Nat} (hn : pN ≤ n) (m : rn_Mem) (hT : Rtp m) (S V : Nat → Nat) (hw : WF S) (hc : cSt S V 3 m) (hz : zOK S (m.1 116)) : ∃ (r : Int32) (m1 m2 : rn_Mem), lt_table n m = some (r, m1) ∧ mo_table n m1 = some (r, m2) ∧ Rtp m2 ∧ (Kq Pt0 m m2 ∨ (∃ S2, WF S2 ∧ zOK S2 (m2.1 116) ∧ cSt S2 V 3 m2 ∧ m2.1 0 8 = 0 ∧ (∀ j, (j < 9 ∨ j = 10 ∨ j = 11 ∨ 64 ≤ j) → S2 j = S j) ∧ Kq Pt1 m m2)) := by
  unfold pN at hn
  have hcl : ∀ mm : rn_Mem, (tp_clear n mm) = some (rm_i (rm_i mm 1 1 0) 1 2 0) := fun mm => rfl
  obtain ⟨⟨g0, g1⟩, ct, cl, cr⟩ := hc
  have hc : cSt S V 3 m := ⟨⟨g0, g1⟩, ct, cl, cr⟩
  rcases S0_01 hw with h0 | h0
  · refine ⟨-2, rm_i (rm_i m 1 1 0) 1 2 0, rm_i (rm_i (rm_i m 1 1 0) 1 2 0) 115 2 0, ?_, ?_, Rtp_0 ?_ ?_ ?_, Or.inl ?_⟩
    · unfold lt_table
      rw [if_pos (by rw [show m.1 4 0 = nI (S 0) from g0, h0]; rfl), hcl]
      rfl
    · unfold mo_table
      rw [if_pos (by rw [mi_get, if_neg (by omega), mi_get, if_neg (by omega), zOK_at hz (k := 0) (by omega) (by omega) (by omega) (by omega), h0]; rfl)]
      rfl
    · rw [mi_get, if_neg (by omega), mi_get, if_neg (by omega), mi_get, if_pos ⟨rfl, rfl⟩]
    · rw [mi_get, if_neg (by omega), mi_get, if_pos ⟨rfl, rfl⟩]
    · rw [mi_get, if_pos ⟨rfl, rfl⟩]
    · exact ((Kq.rf.sti (by unfold Pt0; omega)).sti (by unfold Pt0; omega)).sti (by unfold Pt0; omega)
  obtain ⟨e1, e2, e3, e4, e5, e6, e7, e8⟩ := g1 h0
  obtain ⟨wg, wt, wc, wr⟩ := WF_1 hw h0
  obtain ⟨w1, w2, w3, w4, w5, w6, w7, w8, w9, w10, w11, w12⟩ := wg
  obtain ⟨B, K, hB, hTC, hTM, h12⟩ := Rtp_B hT
  obtain ⟨ok, e, all, u, M, A, p1, p2, p3, p4⟩ := T_rest hB (show WG S from ⟨w1, w2, w3, w4, w5, w6, w7, w8, w9, w10, w11, w12⟩) (S 1 - 1) 0 0 0 0 0 A0 (by omega) (IV_0 S) (by omega) (fun _ _ _ => rfl) (by omega) (fun d hd => by omega)
  obtain ⟨n', rfl⟩ : ∃ e, n = e + 1 := ⟨n - 1, by omega⟩
  obtain ⟨ma, q1, q2, q3, q4⟩ := ta_clear_sp (S := S) (nf := n' + 1) (m := m) (by omega)
  have hG : GC S m := ⟨e1, e2, e3⟩
  obtain ⟨mb, r1, r2, r3, r4⟩ := p3 n' (n' + 1) ma (by omega) (by omega) (TC_P hTC q3) (by rw [q4]; exact h12) (GC_P hG q3) q2
  have kab : Kq Pct m mb := q3.tr r4
  have hrd : tp_readTable (n' + 1) 37 4 m = some (o01 ok, mb) := by
    unfold tp_readTable
    rw [q1]
    simp only [Option.bind_some]
    have hh : tp_readTable_l6 37 4 (n' + 1) 0 ma = (tp_readHeap n' 37 4 (nI 0) ma).bind (cgo n' 0) := by
      rw [tp_readTable_l6, (GC_P hG q3).1, if_pos (by rw [k0, nI_ltI (by omega) (by omega)]; omega), if_neg (by decide)]
      simp only [Option.bind_some]
      rfl
    rw [hh]
    exact r1
  have hMr : ∀ m', TM B K m' → zOK S (m'.1 116) → ∃ m2, mo_readTable (n' + 1) m' = some (o01 ok, m2) ∧ m2.1 115 3 = nI e ∧ (ok = true → MV A (S 1) m2) ∧ Kq Pmt m' m2 := by
    intro m' hTm hz'
    have e116 : (rm_i m' 115 3 0).1 116 = m'.1 116 := by funext j; rw [mi_get, if_neg (by omega)]
    have hZ : GZ S (rm_i m' 115 3 0) := by
      unfold GZ; rw [e116]
      exact ⟨zOK_at hz' (by omega) (by omega) (by omega) (by omega), zOK_at hz' (by omega) (by omega) (by omega) (by omega), zOK_at hz' (by omega) (by omega) (by omega) (by omega)⟩
    obtain ⟨m2, s1, s2, s3, s4⟩ := p4 (n' + 1) (n' + 1) (rm_i m' 115 3 0) (by omega) (by omega) (TM_k hTm (by omega) (by omega)) g115 hZ ⟨fun d hd => absurd hd (Nat.not_lt_zero d), fun d i hd => absurd hd (Nat.not_lt_zero d)⟩
    refine ⟨m2, ?_, s2, s3, (Kq.rf.sti (Or.inr ⟨rfl, rfl⟩)).tr s4⟩
    have hb0 : bd (S 3) 0 = S 3 := by
      apply Nat.eq_of_testBit_eq
      intro i
      rw [bd_bit, Nat.zero_testBit]
      cases (S 3).testBit i <;> rfl
    rw [hb0] at s1
    unfold mo_readTable
    simp only [Option.bind_some]
    rw [hZ.2.2]
    exact s1
  have hL0 : ¬ m.1 4 0 = 0 := by rw [show m.1 4 0 = nI (S 0) from g0, h0]; decide
  cases ok with
  | false =>
    have hL : lt_table (n' + 1) m = some ((-20 : Int32) - nI e, rm_i (rm_i mb 1 1 0) 1 2 0) := by
      unfold lt_table
      rw [if_neg hL0, hrd]
      simp only [Option.bind_some]
      unfold tp_fault
      simp only [Option.bind_some]
      rw [hcl, r2]
      rfl
    have kk : Kq Pt0 m (rm_i (rm_i mb 1 1 0) 1 2 0) := ((kab.mono fun p i z => by unfold Pct at z; unfold Pt0; omega).sti (by unfold Pt0; omega)).sti (by unfold Pt0; omega)
    have k116 : (rm_i (rm_i mb 1 1 0) 1 2 0).1 116 = m.1 116 := by funext j; exact kk.1 116 j (by unfold Pt0; omega)
    obtain ⟨md, s1, s2, s3, s4⟩ := hMr (rm_i (rm_i mb 1 1 0) 1 2 0) (by
      have : TM B K mb := ⟨by rw [kab.1 115 2 (by unfold Pct; omega)]; exact hTM.1, fun i hi => by rw [kab.1 117 i (by unfold Pct; omega)]; exact hTM.2 i hi⟩
      exact TM_k (TM_k this (by omega) (by omega)) (by omega) (by omega)) (by rw [k116]; exact hz)
    refine ⟨_, _, rm_i md 115 2 0, hL, ?_, Rtp_0 ?_ ?_ ?_, Or.inl ?_⟩
    · unfold mo_table
      rw [k116, if_neg (by rw [zOK_at hz (k := 0) (by omega) (by omega) (by omega) (by omega), h0]; decide), s1]
      simp only [Option.bind_some]
      rw [if_pos (show o01 false = 0 from rfl), mi_get, if_neg (by omega), s2]
    · rw [mi_get, if_neg (by omega), s4.1 1 1 (by unfold Pmt; omega), mi_get, if_neg (by omega), mi_get, if_pos ⟨rfl, rfl⟩]
    · rw [mi_get, if_neg (by omega), s4.1 1 2 (by unfold Pmt; omega), mi_get, if_pos ⟨rfl, rfl⟩]
    · rw [mi_get, if_pos ⟨rfl, rfl⟩]
    · refine Kq.sti (kk.tr (s4.mono fun p i z => ?_)) ?_
      · unfold Pmt at z; unfold Pt0; omega
      · unfold Pt0; omega
  | true =>
    obtain ⟨hI, hall, hwh⟩ := p2 rfl
    obtain ⟨hWF, huc⟩ := St_WF hw h0 hI hall hwh
    have sz : ∀ d, d < S 1 → A (12 + d) ≤ 12 := fun d hd => by have := IV_sz hI hd; omega
    have hCT := r3 rfl
    have hCT2 : CT S A all u M (rm_i (rm_i mb 1 1 0) 1 2 0) := by
      refine CT_k hCT ?_ ?_ ?_ ?_
      all_goals
        funext j
        rw [mi_get, if_neg (by omega), mi_get, if_neg (by omega)]
    obtain ⟨c0, c1, c2, c3, c4, c5⟩ := hCT2
    obtain ⟨me, t1, t2, ⟨t3, t4, t5, t6⟩, t7, t8, t9, t10⟩ := ta_copy_sp (n := n' + 1) (q := 5) (p := 37) (m := rm_i (rm_i mb 1 1 0) 1 2 0) (by omega) (Or.inr c0)
    have hL : lt_table (n' + 1) m = some (nI u, rm_i me 0 8 0) := by
      unfold lt_table
      rw [if_neg hL0, hrd]
      simp only [Option.bind_some]
      unfold tp_fault
      simp only [Option.bind_some]
      rw [hcl]
      simp only [Option.bind_some]
      rw [if_neg (show ¬ o01 true = 0 by decide), t1]
      simp only [Option.bind_some]
      rw [mi_get, if_neg (by omega), t6, c3]
    have kk : Kq (fun p i => Pct p i ∨ (p = 1 ∧ (i = 1 ∨ i = 2)) ∨ (5 ≤ p ∧ p ≤ 8) ∨ (p = 0 ∧ i = 8)) m (rm_i me 0 8 0) := by
      refine Kq.sti (Kq.tr (Kq.sti (Kq.sti (kab.mono fun p i z => Or.inl z) (by omega)) (by omega)) ⟨fun p i hp => ?_, t2⟩) (by omega)
      rw [t10 p (by omega)]
    have k116 : (rm_i me 0 8 0).1 116 = m.1 116 := by funext j; exact kk.1 116 j (by unfold Pct; omega)
    obtain ⟨md, s1, s2, s3, s4⟩ := hMr (rm_i me 0 8 0) ⟨by rw [kk.1 115 2 (by unfold Pct; omega)]; exact hTM.1, fun i hi => by rw [kk.1 117 i (by unfold Pct; omega)]; exact hTM.2 i hi⟩ (by rw [k116]; exact hz)
    have hMV := s3 rfl
    have d116 : (rm_i md 115 2 0).1 116 = m.1 116 := by
      funext j
      rw [mi_get, if_neg (by omega), s4.1 116 j (by unfold Pmt; omega), k116]
    obtain ⟨mf, u1, u2, u3, u4, u5, u6⟩ := table_l41_sp (A := A) w2 sz (S 1) 0 (n' + 1) (rm_i md 115 2 0) (by omega) (by omega) (by rw [d116]; exact zOK_at hz (by omega) (by omega) (by omega) (by omega)) (fun d hd => by rw [mi_get, if_neg (by omega)]; exact hMV.1 d hd)
    have hzS : zOK (St S A) ((rm_i mf 116 9 1).1 116) := by
      refine ⟨fun k hk h4 h8 hh => ?_, ?_, ?_, fun k hk1 hk2 => ?_⟩
      · rw [mi_get]
        by_cases y1 : k = 9
        · rw [if_pos ⟨rfl, y1⟩, y1]; rfl
        · rw [if_neg (fun z => y1 z.2)]
          by_cases y2 : 12 ≤ k ∧ k < 12 + S 1
          · obtain ⟨d, rfl⟩ : ∃ d, k = 12 + d := ⟨k - 12, by omega⟩
            rw [u5 d (by omega), if_pos (by omega), St_s (by omega) w2]
          · rw [u6 k (by omega), d116, St_o w2 (by omega)]
            exact zOK_at hz hk h4 h8 hh
      · rw [mi_get, if_neg (by omega), u6 4 (by omega), d116, St_o w2 (by omega)]; exact hz.2.1
      · rw [mi_get, if_neg (by omega), u6 8 (by omega), d116, St_o w2 (by omega)]; exact hz.2.2.1
      · rw [mi_get, if_neg (by omega)]
        by_cases y2 : k < 16 + 12 * S 1
        · obtain ⟨d, i, hi, rfl⟩ : ∃ d i, i < 12 ∧ k = 16 + 12 * d + i := ⟨(k - 16) / 12, (k - 16) % 12, by omega, by omega⟩
          rw [u4 d i (by omega) hi, St_c (by omega) w2 hi]
          by_cases y3 : i < A (12 + d)
          · rw [if_pos ⟨by omega, y3⟩, if_pos y3, mi_get, if_neg (by omega)]
            exact hMV.2 d i (by omega) y3
          · rw [if_neg (fun z => y3 z.2), if_neg y3, d116]
            exact hz.2.2.2 _ (by omega) (by omega)
        · rw [u6 k (by omega), d116, St_o w2 (by omega)]
          exact hz.2.2.2 k hk1 hk2
    have hcnt := M_unseen (St S A) (rm_i mf 116 9 1) hWF hzS (n' + 1) (by omega)
    rw [if_pos (show St S A 9 = 1 from rfl), huc] at hcnt
    have hout : ∀ p, p ≠ 116 → p ≠ 118 → p ≠ 115 → (rm_i mf 116 9 1).1 p = (rm_i me 0 8 0).1 p := by
      intro p y1 y2 y3
      funext j
      rw [mi_get, if_neg (fun z => y1 z.1), u3 p y1, mi_get, if_neg (fun z => y3 z.1), s4.1 p j (by unfold Pmt; omega)]
    refine ⟨_, _, rm_i mf 116 9 1, hL, ?_, Rtp_0 ?_ ?_ ?_, Or.inr ⟨St S A, hWF, hzS, ?_, ?_, fun j hj => St_o w2 (by omega), ?_⟩⟩
    · unfold mo_table
      rw [k116, if_neg (by rw [zOK_at hz (k := 0) (by omega) (by omega) (by omega) (by omega), h0]; decide), s1]
      simp only [Option.bind_some]
      rw [if_neg (show ¬ o01 true = 0 by decide), show mo_table_l41 (n' + 1) 0 (rm_i md 115 2 0) = some mf from u1]
      simp only [Option.bind_some]
      rw [hcnt]
      rfl
    · rw [hout 1 (by omega) (by omega) (by omega), mi_get, if_neg (by omega), t10 1 (by omega), mi_get, if_neg (by omega), mi_get, if_pos ⟨rfl, rfl⟩]
    · rw [hout 1 (by omega) (by omega) (by omega), mi_get, if_neg (by omega), t10 1 (by omega), mi_get, if_pos ⟨rfl, rfl⟩]
    · rw [mi_get, if_neg (by omega), u3 115 (by omega), mi_get, if_pos ⟨rfl, rfl⟩]
    · have so : ∀ j, (j < 9 ∨ j = 10 ∨ j = 11 ∨ 64 ≤ j) → St S A j = S j := fun j hj => St_o w2 (by omega)
      have ke : ∀ p, 3 ≤ p → p ≤ 18 → (p < 5 ∨ 8 < p) → (rm_i mf 116 9 1).1 p = m.1 p := by
        intro p y1 y2 y3
        rw [hout p (by omega) (by omega) (by omega)]
        funext j
        exact kk.1 p j (by unfold Pct; omega)
      have kh : ∀ p, 5 ≤ p → p ≤ 8 → (rm_i mf 116 9 1).1 p = me.1 p := by
        intro p y1 y2
        rw [hout p (by omega) (by omega) (by omega)]
        funext j
        rw [mi_get, if_neg (by omega)]
      unfold cSt
      rw [ke (3 + 1) (by omega) (by omega) (by omega), kh (3 + 2) (by omega) (by omega), kh (3 + 3) (by omega) (by omega), kh (3 + 4) (by omega) (by omega), kh (3 + 5) (by omega) (by omega), ke (3 + 6) (by omega) (by omega) (by omega), ke (3 + 7) (by omega) (by omega) (by omega), ke (3 + 8) (by omega) (by omega) (by omega), ke (3 + 9) (by omega) (by omega) (by omega), ke (3 + 10) (by omega) (by omega) (by omega), ke (3 + 11) (by omega) (by omega) (by omega), ke (3 + 12) (by omega) (by omega) (by omega), ke (3 + 13) (by omega) (by omega) (by omega), ke (3 + 14) (by omega) (by omega) (by omega), ke (3 + 15) (by omega) (by omega) (by omega)]
      refine ⟨?_, ⟨?_, fun _ => ⟨fun d hd => ?_, fun d i hd hi => ?_, ?_, M, ?_, hI.2.2.2.2.2.1, fun x hx => ?_⟩⟩, ?_, ?_⟩
      · unfold cGa
        rw [so 0 (by omega), so 1 (by omega), so 2 (by omega), so 3 (by omega), so 4 (by omega), so 5 (by omega), so 6 (by omega), so 7 (by omega), so 8 (by omega)]
        exact ⟨g0, g1⟩
      · rw [show me.1 (3 + 2) 0 = _ from t3, c0]; rfl
      · rw [so 1 (by omega)] at hd ⊢
        rw [show me.1 (3 + 3) d = _ from t7 d (by omega), show me.1 (3 + 4) d = _ from t8 d (by omega), St_s hd w2]
        exact c4 d (by omega)
      · rw [so 1 (by omega)] at hd
        rw [St_s hd w2] at hi
        have := sz d hd
        rw [show me.1 (3 + 5) (12 * d + i) = _ from t9 _ (by omega), St_c hd w2 (by omega), if_pos hi]
        exact c5 d i hd hi
      · rw [show me.1 (3 + 2) 6 = _ from t6, c3, huc]
      · rw [show me.1 (3 + 2) 5 = _ from t5, c2]
      · rw [hI.2.2.2.2.2.2 x hx, so 1 (by omega)]
        constructor
        · rintro ⟨d, i, hd, hi, he⟩
          have := sz d hd
          exact ⟨d, i, hd, by rw [St_s hd w2]; exact hi, by rw [St_c hd w2 (by omega), if_pos hi]; exact he⟩
        · rintro ⟨d, i, hd, hi, he⟩
          have := sz d hd
          rw [St_s hd w2] at hi
          rw [St_c hd w2 (by omega), if_pos hi] at he
          exact ⟨d, i, hd, hi, he⟩
      · unfold cCl
        rw [so 10 (by omega)]
        refine ⟨cl.1, fun k hk => ?_⟩
        rw [so (64 + 4 * k) (by omega), so (65 + 4 * k) (by omega), so (66 + 4 * k) (by omega), so (67 + 4 * k) (by omega)]
        exact cl.2 k hk
      · exact cRo_c (fun j hj => so j (by omega)) cr
    · rw [hout 0 (by omega) (by omega) (by omega), mi_get, if_pos ⟨rfl, rfl⟩]
    · refine Kq.sti ⟨fun p i hp => ?_, ?_⟩ (by unfold Pt1; omega)
      · unfold Pt1 Pt0 at hp
        rw [u3 p (by omega), mi_get, if_neg (by omega), s4.1 p i (by unfold Pmt; omega), kk.1 p i (by unfold Pct; omega)]
      · rw [u2, mi_2, s4.2, kk.2]
