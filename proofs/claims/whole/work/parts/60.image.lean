/-! HEAP, COUNT (0, 1), IMAGE, RESTORE -/
theorem hp_le {S : Nat → Nat} (wg : WG S) (wt : WT S) (h9 : S 9 = 1) {c : Nat} (hc : c < S 1) : S (12 + c) ≤ 12 := by
  have h1 := fb_sm_part (fun c => S (12 + c)) hc
  have h2 := (wt.2 h9).2.1
  have h3 := wg.2.2.2.2.1
  have h4 : fb_sm (fun c => S (12 + c)) c + S (12 + c) ≤ fb_sm (fun c => S (12 + c)) (S 1) := h1
  omega
theorem S9_1 {S : Nat → Nat} (h : WF S) (h9 : S 9 = 1) : S 0 = 1 := by
  rcases h with h | h
  · omega
  · exact h.1
theorem S9_01 {S : Nat → Nat} (h : WF S) : S 9 = 0 ∨ S 9 = 1 := by
  rcases h with h | h
  · exact Or.inl h.2.1
  · have := h.2.2.1.1; omega
theorem S11_01 {S : Nat → Nat} (h : WF S) : S 11 = 0 ∨ S 11 = 1 := by
  rcases h with h | h
  · exact Or.inl h.2.2.2
  · have := h.2.2.2.2.1; omega
theorem S11_1 {S : Nat → Nat} (h : WF S) (h9 : S 11 = 1) : S 0 = 1 := by
  rcases h with h | h
  · omega
  · exact h.1
theorem zC_ans (v : Nat) : (if zC v < 0 then (-4 : Int32) else zC v) = cC v := by
  by_cases h : 16 ≤ v
  · rw [if_pos (zC_lt.mpr h), mi4]; unfold cC; rw [if_neg (by omega)]
  · rw [if_neg (mt zC_lt.mp h)]; unfold zC cC; rw [if_pos (by omega), if_pos (by omega)]
theorem if_some {α β : Type} (c : Prop) [Decidable c] (a b : α) (m : β) : (if c then some (a, m) else some (b, m)) = some (if c then a else b, m) := by
  split <;> rfl
theorem C_heap (S V : Nat → Nat) (m : rn_Mem) (hw : WF S) (hc : cSt S V 3 m) (a b : Int32) : ∃ r, (∀ n, lt_heap n a b m = some (r, m)) ∧ ∀ n m1, zOK S (m1.1 116) → mo_heap n a b m1 = some (r, m1) := by
  obtain ⟨⟨g0, g1⟩, ⟨c20, c21⟩, c3, c4⟩ := hc
  by_cases ha : 0 ≤ a.toInt ∧ a.toInt ≤ 3
  case neg =>
    refine ⟨-1, fun n => ?_, fun n m1 _ => ?_⟩
    · unfold lt_heap
      rw [lt_isNoChair_eq, if_neg ha]
      rfl
    · unfold mo_heap
      rw [mo_in_i n a 0 3 0 3 m1 (by decide) (by decide), if_neg ha]
      rfl
  by_cases hb : -1 ≤ b.toInt ∧ b.toInt ≤ 11
  case neg =>
    refine ⟨-1, fun n => ?_, fun n m1 _ => ?_⟩
    · unfold lt_heap
      rw [lt_isNoChair_eq, if_pos ha]
      simp only [Option.bind_some, if_true, i_lt, t0, t1, t2, t3, t4, t5, t6, t7, t11, t12, t15, t16, t30, t65535, tm1]
      by_cases q : b.toInt < -1
      · rw [if_pos q]
      · rw [if_neg q, if_neg (by omega)]
    · unfold mo_heap
      rw [mo_in_i n a 0 3 0 3 m1 (by decide) (by decide), if_pos ha]
      simp only [Option.bind_some]
      rw [if_neg (by decide), mo_in_i n b (-1) 11 (-1) 11 m1 (by decide) (by decide), if_neg hb]
      rfl
  obtain ⟨c, hc4, rfl⟩ := i_nat (x := a) (k := 4) ha.1 (by omega)
  have hL : ∀ n, lt_heap n (nI c) b m = if m.1 5 0 = 0 then some (-2, m) else if nI c < m.1 4 1 then if b < m.1 6 c then if b < 0 then some (m.1 6 c, m) else (ta_cardAt n 5 (nI c) b m).bind fun (r14, m13) => some (r14, m13) else some (-1, m) else some (-1, m) := by
    intro n
    unfold lt_heap
    rw [lt_isNoChair_eq, if_pos ha]
    simp (disch := omega) only [Option.bind_some, if_true, in_n, nI_n]
    rw [if_neg (by rw [i_lt, tm1]; omega), if_pos (by rw [i_lt, t12]; omega)]
    simp only [if_pos hc4]
  have hM : ∀ n m1, mo_heap n (nI c) b m1 = if m1.1 116 9 = 0 then some (-2, m1) else (mo_isChair n (nI c) m1).bind fun (r11, m10) => if r11 = 0 then some (-1, m10) else if b < m10.1 116 (12 + c) then if b < 0 then some (m10.1 116 (12 + c), m10) else if rn_in ((16 + 12 * nI c) + b) 101 = true then some (if m10.1 116 ((16 + 12 * nI c) + b).toNatClampNeg < 0 then -4 else m10.1 116 ((16 + 12 * nI c) + b).toNatClampNeg, m10) else none else some (-1, m10) := by
    intro n m1
    unfold mo_heap
    rw [mo_in_i n _ 0 3 0 3 m1 (by decide) (by decide), if_pos ha]
    simp only [Option.bind_some]
    rw [if_neg (by decide), mo_in_i n b (-1) 11 (-1) 11 m1 (by decide) (by decide), if_pos hb]
    simp only [Option.bind_some]
    rw [if_neg (by decide)]
    simp only [show (12 : Int32) + nI c = nI (12 + c) from nI_add 12 c, in_n (show 12 + c < 2 ^ 31 by omega), nI_n (show 12 + c < 2 ^ 31 by omega), if_pos (show 12 + c < 101 by omega), if_some]
  rcases S9_01 hw with h9 | h9
  · refine ⟨-2, fun n => ?_, fun n m1 hz => ?_⟩
    · rw [hL, if_pos (by rw [show m.1 5 0 = nI (S 9) from c20, h9]; rfl)]
    · rw [hM, if_pos (by rw [zOK_at hz (by omega) (by omega) (by omega) (by omega), h9]; rfl)]
  have h0 := S9_1 hw h9
  obtain ⟨wg, wt, wc, wr⟩ := WF_1 hw h0
  obtain ⟨e1, _⟩ := g1 h0
  obtain ⟨f1, f2, f3, f4⟩ := c21 h9
  have hL9 : ¬ m.1 5 0 = 0 := by rw [show m.1 5 0 = nI (S 9) from c20, h9]; decide
  have hn := wg.2.1
  by_cases h1 : c < S 1
  case neg =>
    refine ⟨-1, fun n => ?_, fun n m1 hz => ?_⟩
    · rw [hL, if_neg hL9, if_neg (by rw [show m.1 4 1 = nI (S 1) from e1, nI_ltI (by omega) (by omega)]; exact h1)]
    · rw [hM, if_neg (by rw [zOK_at hz (by omega) (by omega) (by omega) (by omega), h9]; decide), mo_isChair_eq n S (nI c) m1 (zOK_at hz (by omega) (by omega) (by omega) (by omega)) (by have := wg.1; omega), if_neg (by rw [nI_int (by omega)]; omega)]
      rfl
  have hH := hp_le wg wt h9 h1
  have hL2 : ∀ n, lt_heap n (nI c) b m = if b < nI (S (12 + c)) then if b < 0 then some (nI (S (12 + c)), m) else (ta_cardAt n 5 (nI c) b m).bind fun (r14, m13) => some (r14, m13) else some (-1, m) := by
    intro n
    rw [hL, if_neg hL9, if_pos (by rw [show m.1 4 1 = nI (S 1) from e1, nI_ltI (by omega) (by omega)]; exact h1), show m.1 6 c = nI (S (12 + c)) from (f1 c h1).1]
  have hM2 : ∀ n m1, zOK S (m1.1 116) → mo_heap n (nI c) b m1 = if b < nI (S (12 + c)) then if b < 0 then some (nI (S (12 + c)), m1) else if rn_in ((16 + 12 * nI c) + b) 101 = true then some (if m1.1 116 ((16 + 12 * nI c) + b).toNatClampNeg < 0 then -4 else m1.1 116 ((16 + 12 * nI c) + b).toNatClampNeg, m1) else none else some (-1, m1) := by
    intro n m1 hz
    rw [hM, if_neg (by rw [zOK_at hz (by omega) (by omega) (by omega) (by omega), h9]; decide), mo_isChair_eq n S (nI c) m1 (zOK_at hz (by omega) (by omega) (by omega) (by omega)) (by have := wg.1; omega), if_pos (by rw [nI_int (by omega)]; omega)]
    simp only [Option.bind_some]
    rw [if_neg (by decide), zOK_at hz (k := 12 + c) (by omega) (by omega) (by omega) (by omega)]
  by_cases g1 : b < nI (S (12 + c))
  case neg => exact ⟨-1, fun n => by rw [hL2, if_neg g1], fun n m1 hz => by rw [hM2 n m1 hz, if_neg g1]⟩
  by_cases g2 : b < 0
  · exact ⟨_, fun n => by rw [hL2, if_pos g1, if_pos g2], fun n m1 hz => by rw [hM2 n m1 hz, if_pos g1, if_pos g2]⟩
  obtain ⟨i, hi, rfl⟩ := i_nat (x := b) (k := S (12 + c)) (by rw [i_lt, t0] at g2; omega) (by rw [i_lt, nI_int (by omega)] at g1; exact g1)
  refine ⟨cC (S (16 + 12 * c + i)), fun n => ?_, fun n m1 hz => ?_⟩
  · rw [hL2, if_pos g1, if_neg g2]
    unfold ta_cardAt
    simp (disch := omega) only [k12, pk_mul, nI_add, in_n, nI_n]
    rw [if_pos (by omega)]
    simp only [Option.bind_some]
    rw [show c * 12 + i = 12 * c + i by omega, show m.1 (5 + 3) (12 * c + i) = _ from f2 c i h1 hi]
  · rw [hM2 n m1 hz, if_pos g1, if_neg g2]
    simp (disch := omega) only [k12, k16, pk_mul, nI_add, in_n, nI_n]
    rw [if_pos (by omega), hz.2.2.2 (16 + 12 * c + i) (by omega) (by omega)]
    simp only [← k16, ← k12, ← mi4, zC_ans]
theorem count_l59_sp (S : Nat → Nat) (m : rn_Mem) (hz : zOK S (m.1 116)) (c A : Nat) (hc : c < 4) (hH : S (12 + c) ≤ 12) (hA : A < 1000) : ∀ (j i n : Nat), i + j = S (12 + c) → j < n → mo_count_l59 (nI c) n (nI (A + fb_ct (fun i => decide (16 ≤ S (16 + 12 * c + i))) i)) (nI i) m = some (nI (A + fb_ct (fun i => decide (16 ≤ S (16 + 12 * c + i))) (S (12 + c))), m) := by
  intro j
  induction j with
  | zero =>
    intro i n hi hn
    obtain ⟨n, rfl⟩ : ∃ e, n = e + 1 := ⟨n - 1, by omega⟩
    unfold mo_count_l59
    rw [show (12 : Int32) + nI c = nI (12 + c) from nI_add 12 c, if_pos ((in_n (by omega)).mpr (by omega)), nI_n (by omega), zOK_at hz (k := 12 + c) (by omega) (by omega) (by omega) (by omega), if_neg (by rw [nI_ltI (by omega) (by omega)]; omega), show i = S (12 + c) by omega]
  | succ j ih =>
    intro i n hi hn
    obtain ⟨n, rfl⟩ : ∃ e, n = e + 1 := ⟨n - 1, by omega⟩
    unfold mo_count_l59
    have hb := fb_ct_le (fun i => decide (16 ≤ S (16 + 12 * c + i))) i
    rw [show (12 : Int32) + nI c = nI (12 + c) from nI_add 12 c, if_pos ((in_n (by omega)).mpr (by omega)), nI_n (by omega), zOK_at hz (k := 12 + c) (by omega) (by omega) (by omega) (by omega), if_pos (by rw [nI_ltI (by omega) (by omega)]; omega), show (16 : Int32) + (12 : Int32) * nI c + nI i = nI (16 + 12 * c + i) by rw [k16, k12, pk_mul, nI_add, nI_add], if_pos ((in_n (by omega)).mpr (by omega)), nI_n (by omega), hz.2.2.2 (16 + 12 * c + i) (by omega) (by omega)]
    have h := ih (i + 1) n (by omega) (by omega)
    by_cases g : 16 ≤ S (16 + 12 * c + i)
    · rw [if_pos (zC_lt.mpr g)]
      simp only [Option.bind_some, nI_1]
      rw [fb_ct_succ, if_pos (by exact decide_eq_true g)] at h
      rw [show A + fb_ct (fun i => decide (16 ≤ S (16 + 12 * c + i))) i + 1 = A + (fb_ct (fun i => decide (16 ≤ S (16 + 12 * c + i))) i + 1) by omega]
      exact h
    · rw [if_neg (mt zC_lt.mp g)]
      simp only [Option.bind_some, nI_1, k0, nI_add]
      rw [fb_ct_succ, if_neg (by simp only [decide_eq_true_eq]; exact g)] at h
      exact h
theorem count_l35_sp (S : Nat → Nat) (m : rn_Mem) (wg : WG S) (wt : WT S) (h9 : S 9 = 1) (hz : zOK S (m.1 116)) : ∀ (j c n : Nat), c + j = S 1 → j + 20 < n → mo_count_l35 n (nI (fb_sm (fun c => fb_ct (fun i => decide (16 ≤ S (16 + 12 * c + i))) (S (12 + c))) c)) (nI c) m = some (nI (uc S), m) := by
  have hn := wg.2.1
  intro j
  induction j with
  | zero =>
    intro c n hi hn
    obtain ⟨n, rfl⟩ : ∃ e, n = e + 1 := ⟨n - 1, by omega⟩
    unfold mo_count_l35
    rw [zOK_at hz (k := 1) (by omega) (by omega) (by omega) (by omega), if_neg (by rw [nI_ltI (by omega) (by omega)]; omega), show c = S 1 by omega]
    rfl
  | succ j ih =>
    intro c n hi hn
    obtain ⟨n, rfl⟩ : ∃ e, n = e + 1 := ⟨n - 1, by omega⟩
    have hH : S (12 + c) ≤ 12 := hp_le wg wt h9 (by omega)
    have hA : fb_sm (fun c => fb_ct (fun i => decide (16 ≤ S (16 + 12 * c + i))) (S (12 + c))) c ≤ c * 12 := by
      refine fb_sm_bound fun k hk => ?_
      have := fb_ct_le (fun i => decide (16 ≤ S (16 + 12 * k + i))) (S (12 + k))
      have := hp_le wg wt h9 (show k < S 1 by omega)
      omega
    unfold mo_count_l35
    rw [zOK_at hz (k := 1) (by omega) (by omega) (by omega) (by omega), if_pos (by rw [nI_ltI (by omega) (by omega)]; omega), if_pos (by rw [zOK_at hz (k := 9) (by omega) (by omega) (by omega) (by omega), h9]; rfl)]
    have h := count_l59_sp S m hz c (fb_sm (fun c => fb_ct (fun i => decide (16 ≤ S (16 + 12 * c + i))) (S (12 + c))) c) (by omega) hH (by omega) (S (12 + c)) 0 n (by omega) (by omega)
    rw [show fb_ct (fun i => decide (16 ≤ S (16 + 12 * c + i))) 0 = 0 from rfl, Nat.add_zero, ← k0] at h
    rw [h]
    simp only [Option.bind_some, nI_1]
    have h2 := ih (c + 1) n (by omega) (by omega)
    rw [fb_sm_succ] at h2
    exact h2
theorem M_unseen (S : Nat → Nat) (m : rn_Mem) (hw : WF S) (hz : zOK S (m.1 116)) (n : Nat) (hn : 100 < n) : mo_count n 1 m = some (nI (if S 9 = 1 then uc S else 0), m) := by
  unfold mo_count
  rw [mo_in_i n 1 0 2 0 2 m (by decide) (by decide), if_pos (by decide)]
  simp only [Option.bind_some]
  rw [if_neg (by decide), if_neg (by decide), if_pos trivial]
  rcases S9_01 hw with h9 | h9
  · obtain ⟨n, rfl⟩ : ∃ e, n = e + 1 := ⟨n - 1, by omega⟩
    unfold mo_count_l35
    have : ¬ m.1 116 9 = 1 := by rw [zOK_at hz (k := 9) (by omega) (by omega) (by omega) (by omega), h9]; decide
    rw [if_neg this, if_neg (show ¬ S 9 = 1 by omega)]
    split <;> rfl
  · obtain ⟨wg, wt, wc, wr⟩ := WF_1 hw (S9_1 hw h9)
    have hn4 := wg.2.1
    have h := count_l35_sp S m wg wt h9 hz (S 1) 0 n (by omega) (by omega)
    rw [show fb_sm (fun c => fb_ct (fun i => decide (16 ≤ S (16 + 12 * c + i))) (S (12 + c))) 0 = 0 from rfl, ← k0] at h
    rw [h, if_pos h9]
    rfl
theorem C_unseen (S V : Nat → Nat) (m : rn_Mem) (hw : WF S) (hc : cSt S V 3 m) (n : Nat) : lt_count n 1 m = some (nI (if S 9 = 1 then uc S else 0), m) := by
  obtain ⟨_, ⟨c20, c21⟩, _, _⟩ := hc
  unfold lt_count
  rw [if_neg (by decide), if_pos rfl]
  rcases S9_01 hw with h9 | h9
  · rw [if_pos (by rw [show m.1 5 0 = nI (S 9) from c20, h9]; rfl), if_neg (by omega)]
    rfl
  · rw [if_neg (by rw [show m.1 5 0 = nI (S 9) from c20, h9]; decide), if_pos h9, show m.1 5 6 = _ from (c21 h9).2.2.1]
/-! copies -/
theorem q0 : (0 : Int32).toNatClampNeg = 0 := by decide
theorem q4 : (4 : Int32).toNatClampNeg = 4 := by decide
theorem q6 : (6 : Int32).toNatClampNeg = 6 := by decide
theorem q12 : (12 : Int32).toNatClampNeg = 12 := by decide
theorem q13 : (13 : Int32).toNatClampNeg = 13 := by decide
theorem q48 : (48 : Int32).toNatClampNeg = 48 := by decide
theorem ga_copy_sp {n q p : Nat} {m : rn_Mem} (hq : q ≠ p) (hb : m.1 p 0 = 0 ∨ m.1 p 0 = 1) : ∃ m2, ga_copy n q p m = some m2 ∧ m2.2 = m.2 ∧ (∀ i, i < 9 → m2.1 q i = m.1 p i) ∧ ∀ r, r ≠ q → m2.1 r = m.1 r := by
  unfold ga_copy
  rw [if_pos hb]
  refine ⟨_, rfl, rfl, fun i hi => ?_, fun r hr => ?_⟩
  · have hq2 : ¬ p = q := fun h => hq h.symm
    simp only [mi_get, hq2, false_and, if_false, true_and]
    match i, hi with
    | 0, _ => rfl
    | 1, _ => rfl
    | 2, _ => rfl
    | 3, _ => rfl
    | 4, _ => rfl
    | 5, _ => rfl
    | 6, _ => rfl
    | 7, _ => rfl
    | 8, _ => rfl
  · funext j
    simp only [mi_get, hr, false_and, if_false]
theorem ta_copy_sp {n q p : Nat} {m : rn_Mem} (hq : q + 3 < p ∨ p + 3 < q) (hb : m.1 p 0 = 0 ∨ m.1 p 0 = 1) : ∃ m2, ta_copy n q p m = some m2 ∧ m2.2 = m.2 ∧ (m2.1 q 0 = m.1 p 0 ∧ m2.1 q 4 = m.1 p 4 ∧ m2.1 q 5 = m.1 p 5 ∧ m2.1 q 6 = m.1 p 6) ∧ (∀ i, i < 4 → m2.1 (q + 1) i = m.1 (p + 1) i) ∧ (∀ i, i < 4 → m2.1 (q + 2) i = m.1 (p + 2) i) ∧ (∀ i, i < 48 → m2.1 (q + 3) i = m.1 (p + 3) i) ∧ ∀ r, (r < q ∨ q + 3 < r) → m2.1 r = m.1 r := by
  unfold ta_copy
  rw [if_pos hb]
  refine ⟨_, rfl, rfl, ⟨?_, ?_, ?_, ?_⟩, fun i hi => ?_, fun i hi => ?_, fun i hi => ?_, fun r hr => ?_⟩
  · simp (disch := omega) only [mc_get, mi_get, q0, q4, q48, if_pos, if_neg, true_and, and_true, if_true]
  · simp (disch := omega) only [mc_get, mi_get, q0, q4, q48, if_pos, if_neg, true_and, and_true, if_true]
  · simp (disch := omega) only [mc_get, mi_get, q0, q4, q48, if_pos, if_neg, true_and, and_true, if_true]
  · simp (disch := omega) only [mc_get, mi_get, q0, q4, q48, if_pos, if_neg, true_and, and_true, if_true]
  · simp (disch := omega) only [mc_get, mi_get, q0, q4, q48, if_pos, if_neg, true_and, Nat.zero_add, Nat.sub_zero]
  · simp (disch := omega) only [mc_get, mi_get, q0, q4, q48, if_pos, if_neg, true_and, Nat.zero_add, Nat.sub_zero]
  · simp (disch := omega) only [mc_get, mi_get, q0, q4, q48, if_pos, if_neg, true_and, Nat.zero_add, Nat.sub_zero]
  · funext j
    simp (disch := omega) only [mc_get, mi_get, q0, q4, q48, if_neg]
theorem cl_copy_sp {n q p : Nat} {m : rn_Mem} (hq : q + 4 < p ∨ p + 4 < q) : ∃ m2, cl_copy n q p m = some m2 ∧ m2.2 = m.2 ∧ m2.1 q 0 = m.1 p 0 ∧ (∀ j i, 1 ≤ j → j ≤ 4 → i < 6 → m2.1 (q + j) i = m.1 (p + j) i) ∧ ∀ r, (r < q ∨ q + 4 < r) → m2.1 r = m.1 r := by
  unfold cl_copy
  refine ⟨_, rfl, rfl, ?_, fun j i h1 h2 hi => ?_, fun r hr => ?_⟩
  · simp (disch := omega) only [mc_get, mi_get, q0, q6, if_pos, if_neg, true_and, and_true, if_true]
  · obtain rfl | rfl | rfl | rfl : j = 1 ∨ j = 2 ∨ j = 3 ∨ j = 4 := by omega
    · simp (disch := omega) only [mc_get, mi_get, q0, q6, if_pos, if_neg, true_and, Nat.zero_add, Nat.sub_zero]
    · simp (disch := omega) only [mc_get, mi_get, q0, q6, if_pos, if_neg, true_and, Nat.zero_add, Nat.sub_zero]
    · simp (disch := omega) only [mc_get, mi_get, q0, q6, if_pos, if_neg, true_and, Nat.zero_add, Nat.sub_zero]
    · simp (disch := omega) only [mc_get, mi_get, q0, q6, if_pos, if_neg, true_and, Nat.zero_add, Nat.sub_zero]
  · funext j
    simp (disch := omega) only [mc_get, mi_get, q0, q6, if_neg]
theorem ro_copy_sp {n q p : Nat} {m : rn_Mem} (hq : q + 4 < p ∨ p + 4 < q) (hb : m.1 p 0 = 0 ∨ m.1 p 0 = 1) : ∃ m2, ro_copy n q p m = some m2 ∧ m2.2 = m.2 ∧ (m2.1 q 0 = m.1 p 0 ∧ m2.1 q 1 = m.1 p 1) ∧ (∀ j i, 1 ≤ j → j ≤ 4 → i < 12 → m2.1 (q + j) i = m.1 (p + j) i) ∧ m2.1 (q + 4) 12 = m.1 (p + 4) 12 ∧ ∀ r, (r < q ∨ q + 4 < r) → m2.1 r = m.1 r := by
  unfold ro_copy
  rw [if_pos hb]
  refine ⟨_, rfl, rfl, ⟨?_, ?_⟩, fun j i h1 h2 hi => ?_, ?_, fun r hr => ?_⟩
  · simp (disch := omega) only [mc_get, mi_get, q0, q12, q13, if_pos, if_neg, true_and, and_true, if_true]
  · simp (disch := omega) only [mc_get, mi_get, q0, q12, q13, if_pos, if_neg, true_and, and_true, if_true]
  · obtain rfl | rfl | rfl | rfl : j = 1 ∨ j = 2 ∨ j = 3 ∨ j = 4 := by omega
    · simp (disch := omega) only [mc_get, mi_get, q0, q12, q13, if_pos, if_neg, true_and, Nat.zero_add, Nat.sub_zero]
    · simp (disch := omega) only [mc_get, mi_get, q0, q12, q13, if_pos, if_neg, true_and, Nat.zero_add, Nat.sub_zero]
    · simp (disch := omega) only [mc_get, mi_get, q0, q12, q13, if_pos, if_neg, true_and, Nat.zero_add, Nat.sub_zero]
    · simp (disch := omega) only [mc_get, mi_get, q0, q12, q13, if_pos, if_neg, true_and, Nat.zero_add, Nat.sub_zero]
  · simp (disch := omega) only [mc_get, mi_get, q0, q12, q13, if_pos, if_neg, true_and, Nat.zero_add, Nat.sub_zero]
  · funext j
    simp (disch := omega) only [mc_get, mi_get, q0, q12, q13, if_neg]
theorem b01 {k : Nat} (h : k ≤ 1) {x : Int32} (hx : x = nI k) : x = 0 ∨ x = 1 := by
  obtain rfl | rfl : k = 0 ∨ k = 1 := by omega
  · exact Or.inl hx
  · exact Or.inr hx
/-- parts of a State copied -/
theorem cGa_cp {S : Nat → Nat} {g g2 : Nat → Int32} (h : ∀ i, i < 9 → g2 i = g i) (c : cGa S g) : cGa S g2 := by
  unfold cGa at *
  rw [h 0 (by omega), h 1 (by omega), h 2 (by omega), h 3 (by omega), h 4 (by omega), h 5 (by omega), h 6 (by omega), h 7 (by omega), h 8 (by omega)]
  exact c
theorem cTa_cp {S : Nat → Nat} (hw : WF S) {t a b c t2 a2 b2 c2 : Nat → Int32} (h0 : t2 0 = t 0 ∧ t2 5 = t 5 ∧ t2 6 = t 6) (ha : ∀ i, i < 4 → a2 i = a i) (hb : ∀ i, i < 4 → b2 i = b i) (hc : ∀ i, i < 48 → c2 i = c i) (h : cTa S t a b c) : cTa S t2 a2 b2 c2 := by
  obtain ⟨h1, h2⟩ := h
  refine ⟨h0.1.trans h1, fun h9 => ?_⟩
  obtain ⟨wg, wt, wc, wr⟩ := WF_1 hw (S9_1 hw h9)
  have hn := wg.2.1
  obtain ⟨f1, f2, f3, f4⟩ := h2 h9
  refine ⟨fun k hk => ?_, fun k i hk hi => ?_, by rw [h0.2.2]; exact f3, by rw [h0.2.1]; exact f4⟩
  · rw [ha k (by omega), hb k (by omega)]; exact f1 k hk
  · rw [hc _ (by have := hp_le wg wt h9 hk; omega)]; exact f2 k i hk hi
theorem cCl_cp {S : Nat → Nat} (hw : WF S) {t a b c d t2 a2 b2 c2 d2 : Nat → Int32} (h0 : t2 0 = t 0) (ha : ∀ i, i < 6 → a2 i = a i ∧ b2 i = b i ∧ c2 i = c i ∧ d2 i = d i) (h : cCl S t a b c d) : cCl S t2 a2 b2 c2 d2 := by
  obtain ⟨h1, h2⟩ := h
  refine ⟨h0.trans h1, fun k hk => ?_⟩
  have : S 10 ≤ 6 := by
    rcases hw with q | q
    · omega
    · exact q.2.2.2.1.1
  obtain ⟨q1, q2, q3, q4⟩ := ha k (by omega)
  rw [q1, q2, q3, q4]
  exact h2 k hk
theorem cRo_cp {S V : Nat → Nat} (hw : WF S) {t a b c d t2 a2 b2 c2 d2 : Nat → Int32} (h0 : t2 0 = t 0 ∧ t2 1 = t 1) (ha : ∀ i, i < 12 → a2 i = a i ∧ b2 i = b i ∧ c2 i = c i ∧ d2 i = d i) (h : cRo S V t a b c d) : cRo S V t2 a2 b2 c2 d2 := by
  obtain ⟨h1, h2⟩ := h
  refine ⟨h0.1.trans h1, fun h11 => ?_⟩
  obtain ⟨wg, wt, wc, wr⟩ := WF_1 hw (S11_1 hw h11)
  have hn := wg.2.2.2.2.1
  obtain ⟨f1, f2, f3⟩ := h2 h11
  refine ⟨by rw [h0.2]; exact f1, fun i hi => ?_, fun i hi => ?_⟩
  · obtain ⟨q1, q2, q3, q4⟩ := ha i (by omega)
    rw [q1, q2, q3]; exact f2 i hi
  · obtain ⟨q1, q2, q3, q4⟩ := ha i (by omega)
    rw [q4]; exact f3 i hi
theorem st_copy_sp {n q p : Nat} {m : rn_Mem} {S V : Nat → Nat} (hw : WF S) (hc : cSt S V p m) (hq : q + 15 < p ∨ p + 15 < q) : ∃ m2, st_copy n q p m = some m2 ∧ m2.2 = m.2 ∧ cSt S V q m2 ∧ ∀ r, (r < q + 1 ∨ q + 15 < r) → m2.1 r = m.1 r := by
  obtain ⟨c1, c2, c3, c4⟩ := hc
  have b9 : S 9 ≤ 1 := by rcases S9_01 hw with h | h <;> omega
  have b0 : S 0 ≤ 1 := by rcases S0_01 hw with h | h <;> omega
  have b11 : S 11 ≤ 1 := by rcases S11_01 hw with h | h <;> omega
  obtain ⟨m1, e1, f1, g1, k1⟩ := ga_copy_sp (n := n) (q := q + 1) (p := p + 1) (m := m) (by omega) (b01 b0 c1.1)
  have i2 : m1.1 (p + 2) = m.1 (p + 2) := k1 _ (by omega)
  obtain ⟨m2, e2, f2, g2, g2a, g2b, g2c, k2⟩ := ta_copy_sp (n := n) (q := q + 2) (p := p + 2) (m := m1) (by omega) (by rw [i2]; exact b01 b9 c2.1)
  obtain ⟨m3, e3, f3, g3, g3a, k3⟩ := cl_copy_sp (n := n) (q := q + 6) (p := p + 6) (m := m2) (by omega)
  have i4 : ∀ j, 11 ≤ j → j ≤ 15 → m3.1 (p + j) = m.1 (p + j) := by
    intro j h1 h2
    rw [k3 _ (by omega), k2 _ (by omega), k1 _ (by omega)]
  obtain ⟨m4, e4, f4, g4, g4a, g4b, k4⟩ := ro_copy_sp (n := n) (q := q + 11) (p := p + 11) (m := m3) (by omega) (by rw [i4 11 (by omega) (by omega)]; exact b01 b11 c4.1)
  refine ⟨m4, ?_, by rw [f4, f3, f2, f1], ⟨?_, ?_, ?_, ?_⟩, fun r hr => ?_⟩
  · unfold st_copy
    rw [e1]
    simp only [Option.bind_some]
    rw [e2]
    simp only [Option.bind_some]
    rw [e3]
    simp only [Option.bind_some]
    rw [e4]
    rfl
  · rw [k4 (q + 1) (by omega), k3 (q + 1) (by omega), k2 (q + 1) (by omega)]
    exact cGa_cp g1 c1
  · rw [k4 (q + 2) (by omega), k3 (q + 2) (by omega), k4 (q + 3) (by omega), k3 (q + 3) (by omega), k4 (q + 4) (by omega), k3 (q + 4) (by omega), k4 (q + 5) (by omega), k3 (q + 5) (by omega)]
    refine cTa_cp hw ⟨?_, ?_, ?_⟩ (fun i hi => ?_) (fun i hi => ?_) (fun i hi => ?_) c2
    · rw [g2.1, i2]
    · rw [g2.2.2.1, i2]
    · rw [g2.2.2.2, i2]
    · have := g2a i hi; rw [k1 (p + 2 + 1) (by omega)] at this; exact this
    · have := g2b i hi; rw [k1 (p + 2 + 2) (by omega)] at this; exact this
    · have := g2c i hi; rw [k1 (p + 2 + 3) (by omega)] at this; exact this
  · have i3 : ∀ j, 6 ≤ j → j ≤ 10 → m2.1 (p + j) = m.1 (p + j) := by
      intro j h1 h2
      rw [k2 _ (by omega), k1 _ (by omega)]
    rw [k4 (q + 6) (by omega), k4 (q + 7) (by omega), k4 (q + 8) (by omega), k4 (q + 9) (by omega), k4 (q + 10) (by omega)]
    refine cCl_cp hw ?_ (fun i hi => ⟨?_, ?_, ?_, ?_⟩) c3
    · rw [g3, i3 6 (by omega) (by omega)]
    · have := g3a 1 i (by omega) (by omega) hi; rw [show p + 6 + 1 = p + 7 by omega, i3 7 (by omega) (by omega)] at this; exact this
    · have := g3a 2 i (by omega) (by omega) hi; rw [show p + 6 + 2 = p + 8 by omega, i3 8 (by omega) (by omega)] at this; exact this
    · have := g3a 3 i (by omega) (by omega) hi; rw [show p + 6 + 3 = p + 9 by omega, i3 9 (by omega) (by omega)] at this; exact this
    · have := g3a 4 i (by omega) (by omega) hi; rw [show p + 6 + 4 = p + 10 by omega, i3 10 (by omega) (by omega)] at this; exact this
  · refine cRo_cp hw ⟨?_, ?_⟩ (fun i hi => ⟨?_, ?_, ?_, ?_⟩) c4
    · rw [g4.1, i4 11 (by omega) (by omega)]
    · rw [g4.2, i4 11 (by omega) (by omega)]
    · have := g4a 1 i (by omega) (by omega) hi; rw [show p + 11 + 1 = p + 12 by omega, i4 12 (by omega) (by omega)] at this; exact this
    · have := g4a 2 i (by omega) (by omega) hi; rw [show p + 11 + 2 = p + 13 by omega, i4 13 (by omega) (by omega)] at this; exact this
    · have := g4a 3 i (by omega) (by omega) hi; rw [show p + 11 + 3 = p + 14 by omega, i4 14 (by omega) (by omega)] at this; exact this
    · have := g4a 4 i (by omega) (by omega) hi; rw [show p + 11 + 4 = p + 15 by omega, i4 15 (by omega) (by omega)] at this; exact this
  · rw [k4 _ (by omega), k3 _ (by omega), k2 _ (by omega), k1 _ (by omega)]
theorem C_image (S V : Nat → Nat) (m : rn_Mem) (n : Nat) (hw : WF S) (hc : cSt S V 3 m) : ∃ m1, lt_image n m = some (1, m1) ∧ cSt S V 19 m1 ∧ m1.1 0 7 = 1 ∧ Kq (fun p i => (p = 0 ∧ i = 7) ∨ (20 ≤ p ∧ p ≤ 34)) m m1 := by
  obtain ⟨m2, e, f, c, k⟩ := st_copy_sp (n := n) (q := 19) (p := 3) hw hc (by omega)
  refine ⟨rm_i m2 0 7 1, ?_, ?_, ?_, fun p i hp => ?_, ?_⟩
  · unfold lt_image
    rw [e]
    rfl
  · have hk : ∀ p, p ≠ 0 → (rm_i m2 0 7 1).1 p = m2.1 p := by
      intro p q1
      funext j
      rw [mi_get, if_neg (by omega)]
    unfold cSt
    rw [hk _ (by omega), hk _ (by omega), hk _ (by omega), hk _ (by omega), hk _ (by omega), hk _ (by omega), hk _ (by omega), hk _ (by omega), hk _ (by omega), hk _ (by omega), hk _ (by omega), hk _ (by omega), hk _ (by omega), hk _ (by omega), hk _ (by omega)]
    exact c
  · simp (disch := omega) only [mi_get, mc_get, mi_2, mc_2, mj_1, mj_get, if_pos, if_neg, true_and, and_true, if_true, and_self]
  · rw [mi_get, if_neg (by omega), k p (by omega)]
  · rw [mi_2, f]
theorem C_restore (S V : Nat → Nat) (m : rn_Mem) (n : Nat) (hw : WF S) (hc : cSt S V 19 m) (h7 : m.1 0 7 = 1) : ∃ m1, lt_restore n m = some (1, m1) ∧ cSt S V 3 m1 ∧ m1.1 0 8 = 0 ∧ Kq (fun p i => (p = 0 ∧ i = 8) ∨ (4 ≤ p ∧ p ≤ 18)) m m1 := by
  obtain ⟨m2, e, f, c, k⟩ := st_copy_sp (n := n) (q := 3) (p := 19) hw hc (by omega)
  refine ⟨rm_i m2 0 8 0, ?_, ?_, ?_, fun p i hp => ?_, ?_⟩
  · unfold lt_restore
    rw [if_neg (by rw [h7]; decide), e]
    rfl
  · have hk : ∀ p, p ≠ 0 → (rm_i m2 0 8 0).1 p = m2.1 p := by
      intro p q1
      funext j
      rw [mi_get, if_neg (by omega)]
    unfold cSt
    rw [hk _ (by omega), hk _ (by omega), hk _ (by omega), hk _ (by omega), hk _ (by omega), hk _ (by omega), hk _ (by omega), hk _ (by omega), hk _ (by omega), hk _ (by omega), hk _ (by omega), hk _ (by omega), hk _ (by omega), hk _ (by omega), hk _ (by omega)]
    exact c
  · simp (disch := omega) only [mi_get, mc_get, mi_2, mc_2, mj_1, mj_get, if_pos, if_neg, true_and, and_true, if_true, and_self]
  · rw [mi_get, if_neg (by omega), k p (by omega)]
  · rw [mi_2, f]
theorem mo_image_l2_sp : ∀ (j k n : Nat) (m : rn_Mem), k + j = 101 → j < n → ∃ m2, mo_image_l2 n (nI k) m = some m2 ∧ m2.2 = m.2 ∧ ∀ q i, m2.1 q i = if q = 149 ∧ k ≤ i ∧ i < 101 then m.1 116 i else m.1 q i := by
  intro j
  induction j with
  | zero =>
    intro k n m hk hn
    obtain ⟨n, rfl⟩ : ∃ e, n = e + 1 := ⟨n - 1, by omega⟩
    obtain rfl : k = 101 := by omega
    refine ⟨m, ?_, rfl, fun q i => by rw [if_neg (by omega)]⟩
    unfold mo_image_l2
    rw [if_neg (by decide)]
  | succ j ih =>
    intro k n m hk hn
    obtain ⟨n, rfl⟩ : ∃ e, n = e + 1 := ⟨n - 1, by omega⟩
    obtain ⟨m2, h1, h2, h3⟩ := ih (k + 1) n (rm_i m 149 k (m.1 116 k)) (by omega) (by omega)
    refine ⟨m2, ?_, by rw [h2, mi_2], fun q i => ?_⟩
    · unfold mo_image_l2
      rw [if_pos (by rw [k101, nI_ltI (by omega) (by omega)]; omega), if_pos ((in_n (by omega)).mpr (by omega)), if_pos ((in_n (by omega)).mpr (by omega))]
      simp only [Option.bind_some, nI_n (show k < 2 ^ 31 by omega), nI_1]
      exact h1
    · rw [h3, mi_get, mi_get]
      by_cases e : q = 149
      · by_cases e2 : i = k
        · rw [if_neg (by omega), if_pos ⟨e, e2⟩, if_pos (by omega), e2]
        · by_cases e3 : k + 1 ≤ i ∧ i < 101
          · rw [if_pos ⟨e, e3⟩, if_neg (by omega), if_pos (by omega)]
          · rw [if_neg (by omega), if_neg (by omega), if_neg (by omega)]
      · rw [if_neg (fun z => e z.1), if_neg (fun z => e z.1), if_neg (fun z => e z.1)]
theorem mo_restore_l12_sp : ∀ (j k n : Nat) (m : rn_Mem), k + j = 101 → j < n → ∃ m2, mo_restore_l12 n (nI k) m = some m2 ∧ m2.2 = m.2 ∧ ∀ q i, m2.1 q i = if q = 116 ∧ k ≤ i ∧ i < 101 then m.1 149 i else m.1 q i := by
  intro j
  induction j with
  | zero =>
    intro k n m hk hn
    obtain ⟨n, rfl⟩ : ∃ e, n = e + 1 := ⟨n - 1, by omega⟩
    obtain rfl : k = 101 := by omega
    refine ⟨m, ?_, rfl, fun q i => by rw [if_neg (by omega)]⟩
    unfold mo_restore_l12
    rw [if_neg (by decide)]
  | succ j ih =>
    intro k n m hk hn
    obtain ⟨n, rfl⟩ : ∃ e, n = e + 1 := ⟨n - 1, by omega⟩
    obtain ⟨m2, h1, h2, h3⟩ := ih (k + 1) n (rm_i m 116 k (m.1 149 k)) (by omega) (by omega)
    refine ⟨m2, ?_, by rw [h2, mi_2], fun q i => ?_⟩
    · unfold mo_restore_l12
      rw [if_pos (by rw [k101, nI_ltI (by omega) (by omega)]; omega), if_pos ((in_n (by omega)).mpr (by omega)), if_pos ((in_n (by omega)).mpr (by omega))]
      simp only [Option.bind_some, nI_n (show k < 2 ^ 31 by omega), nI_1]
      exact h1
    · rw [h3, mi_get, mi_get]
      by_cases e : q = 116
      · by_cases e2 : i = k
        · rw [if_neg (by omega), if_pos ⟨e, e2⟩, if_pos (by omega), e2]
        · by_cases e3 : k + 1 ≤ i ∧ i < 101
          · rw [if_pos ⟨e, e3⟩, if_neg (by omega), if_pos (by omega)]
          · rw [if_neg (by omega), if_neg (by omega), if_neg (by omega)]
      · rw [if_neg (fun z => e z.1), if_neg (fun z => e z.1), if_neg (fun z => e z.1)]
theorem zOK_cp {S : Nat → Nat} {z z2 : Nat → Int32} (h : ∀ i, i < 101 → z2 i = z i) (hz : zOK S z) : zOK S z2 := by
  obtain ⟨z1, z2, z3, z4⟩ := hz
  refine ⟨fun k h1 h2 h3 h4 => ?_, ?_, ?_, fun k h1 h2 => ?_⟩
  · rw [h k h1]; exact z1 k h1 h2 h3 h4
  · rw [h 4 (by omega)]; exact z2
  · rw [h 8 (by omega)]; exact z3
  · rw [h k (by omega)]; exact z4 k h1 h2
theorem M_image (S : Nat → Nat) (m : rn_Mem) (n : Nat) (hn : 102 < n) (hz : zOK S (m.1 116)) : ∃ m2, mo_image n m = some (1, m2) ∧ zOK S (m2.1 149) ∧ m2.1 115 46 = 1 ∧ Kq (fun p i => p = 149 ∨ (p = 115 ∧ i = 46)) m m2 := by
  obtain ⟨m2, e, f, k⟩ := mo_image_l2_sp 101 0 n m (by omega) (by omega)
  refine ⟨rm_i m2 115 46 1, ?_, ?_, ?_, fun p i hp => ?_, ?_⟩
  · unfold mo_image
    rw [k0, e]
    rfl
  · refine zOK_cp (z := m.1 116) (fun i hi => ?_) hz
    rw [mi_get, if_neg (by omega), k, if_pos (by omega)]
  · simp (disch := omega) only [mi_get, mc_get, mi_2, mc_2, mj_1, mj_get, if_pos, if_neg, true_and, and_true, if_true, and_self]
  · rw [mi_get, if_neg (by omega), k, if_neg (by omega)]
  · rw [mi_2, f]
theorem M_restore (S : Nat → Nat) (m : rn_Mem) (n : Nat) (hn : 102 < n) (hz : zOK S (m.1 149)) (h : m.1 115 46 = 1) : ∃ m2, mo_restore n m = some (1, m2) ∧ zOK S (m2.1 116) ∧ Kq (fun p _ => p = 116) m m2 := by
  obtain ⟨m2, e, f, k⟩ := mo_restore_l12_sp 101 0 n m (by omega) (by omega)
  refine ⟨m2, ?_, ?_, fun p i hp => ?_, f⟩
  · unfold mo_restore
    rw [if_neg (by rw [h]; decide), k0, e]
    rfl
  · refine zOK_cp (z := m.1 149) (fun i hi => ?_) hz
    rw [k, if_pos (by omega)]
  · rw [k, if_neg (by omega)]
