/-! TABLE: cards laid one by one -/
def ly (A : Nat → Nat) (c x : Nat) : Nat → Nat := fun j => if j = 12 + c then A (12 + c) + 1 else if j = 16 + 12 * c + A (12 + c) then x else A j
def IV (S A : Nat → Nat) (all u M : Nat) : Prop := fb_sm (fun d => A (12 + d)) (S 1) = all ∧ (∀ d i, d < S 1 → i < A (12 + d) → A (16 + 12 * d + i) ≤ 16 ∧ (A (16 + 12 * d + i) < 16 → (S 3).testBit (A (16 + 12 * d + i)) = true)) ∧ (∀ c i d j, c < S 1 → i < A (12 + c) → d < S 1 → j < A (12 + d) → A (16 + 12 * c + i) < 16 → A (16 + 12 * c + i) = A (16 + 12 * d + j) → c = d ∧ i = j) ∧ fb_sm (fun d => fb_ct (fun i => decide (16 ≤ A (16 + 12 * d + i))) (A (12 + d))) (S 1) = u ∧ u ≤ 3 ∧ M < 65536 ∧ ∀ x, x < 16 → (M.testBit x = true ↔ ∃ d i, d < S 1 ∧ i < A (12 + d) ∧ A (16 + 12 * d + i) = x)
theorem ly_s {A : Nat → Nat} {c x d : Nat} (hd : d < 4) : ly A c x (12 + d) = if d = c then A (12 + c) + 1 else A (12 + d) := by
  unfold ly
  by_cases q : d = c
  · rw [if_pos (by omega), if_pos q]
  · rw [if_neg (by omega), if_neg (by omega), if_neg q]
theorem ly_c {A : Nat → Nat} {c x d i : Nat} (hc : c < 4) (hd : d < 4) (hA : A (12 + c) < 12) (hi : i < 12) : ly A c x (16 + 12 * d + i) = if d = c ∧ i = A (12 + c) then x else A (16 + 12 * d + i) := by
  unfold ly
  rw [if_neg (by omega)]
  by_cases q : d = c ∧ i = A (12 + c)
  · rw [if_pos (by rw [q.1, q.2]), if_pos q]
  · rw [if_neg (by omega), if_neg q]
theorem IV_sz {S A : Nat → Nat} {all u M d : Nat} (h : IV S A all u M) (hd : d < S 1) : A (12 + d) ≤ all := by
  have := fb_sm_part (fun d => A (12 + d)) hd
  have h1 := h.1
  have : A (12 + d) ≤ fb_sm (fun d => A (12 + d)) (S 1) := by
    have h2 : fb_sm (fun d => A (12 + d)) d + A (12 + d) ≤ fb_sm (fun d => A (12 + d)) (S 1) := this
    omega
  omega
theorem IV_ly {S A : Nat → Nat} {all u M c x : Nat} (hn4 : S 1 ≤ 4) (hall : all < 12) (h : IV S A all u M) (hc : c < S 1) (hx : (x = 16 ∧ u < 3) ∨ (x < 16 ∧ (S 3).testBit x = true ∧ M.testBit x = false)) : IV S (ly A c x) (all + 1) (if x < 16 then u else u + 1) (if x < 16 then M ||| 2 ^ x else M) := by
  have hsz : ∀ d, d < S 1 → A (12 + d) < 12 := fun d hd => by have := IV_sz h hd; omega
  obtain ⟨h1, h2, h3, h4, h5, h6, h7⟩ := h
  have hnew : x < 16 → ∀ d i, d < S 1 → i < A (12 + d) → A (16 + 12 * d + i) ≠ x := by
    intro hx16 d i hd hi e
    have := (h7 x hx16).mpr ⟨d, i, hd, hi, e⟩
    rcases hx with hx | hx
    · omega
    · rw [hx.2.2] at this; cases this
  refine ⟨?_, ?_, ?_, ?_, ?_, ?_, ?_⟩
  · have e : fb_sm (fun d => ly A c x (12 + d)) (S 1) = fb_sm (fun k => if k = c then A (12 + c) + 1 else A (12 + k)) (S 1) := fb_sm_cong fun k hk => ly_s (by omega)
    have h := fb_sm_upd (fun d => A (12 + d)) (A (12 + c) + 1) (i := c) (n := S 1) hc
    have h : fb_sm (fun k => if k = c then A (12 + c) + 1 else A (12 + k)) (S 1) + A (12 + c) = fb_sm (fun d => A (12 + d)) (S 1) + (A (12 + c) + 1) := h
    rw [e]; omega
  · intro d i hd hi
    rw [ly_s (by omega)] at hi
    have := hsz d hd
    have := hsz c hc
    rw [ly_c (by omega) (by omega) (hsz c hc) (by split at hi <;> omega)]
    by_cases q : d = c ∧ i = A (12 + c)
    · rw [if_pos q]
      rcases hx with hx | hx
      · omega
      · exact ⟨by omega, fun _ => hx.2.1⟩
    · rw [if_neg q]
      refine h2 d i hd ?_
      split at hi
      · rename_i e; subst e; omega
      · exact hi
  · intro a i d j ha hi hd hj hlt he
    rw [ly_s (by omega)] at hi hj
    have sa := hsz a ha
    have sd := hsz d hd
    have sc := hsz c hc
    have hi12 : i < 12 := by split at hi <;> omega
    have hj12 : j < 12 := by split at hj <;> omega
    rw [ly_c (by omega) (by omega) sc hi12] at hlt he
    rw [ly_c (by omega) (by omega) sc hj12] at he
    have hi' : ¬ (a = c ∧ i = A (12 + c)) → i < A (12 + a) := by
      intro q
      split at hi
      · rename_i e; subst e; omega
      · exact hi
    have hj' : ¬ (d = c ∧ j = A (12 + c)) → j < A (12 + d) := by
      intro q
      split at hj
      · rename_i e; subst e; omega
      · exact hj
    by_cases q1 : a = c ∧ i = A (12 + c)
    · rw [if_pos q1] at hlt he
      by_cases q2 : d = c ∧ j = A (12 + c)
      · omega
      · rw [if_neg q2] at he
        exact absurd he.symm (hnew hlt d j hd (hj' q2))
    · rw [if_neg q1] at hlt he
      by_cases q2 : d = c ∧ j = A (12 + c)
      · rw [if_pos q2] at he
        exact absurd he (hnew (by omega) a i ha (hi' q1))
      · rw [if_neg q2] at he
        exact h3 a i d j ha (hi' q1) hd (hj' q2) hlt he
  · have sc := hsz c hc
    have e : fb_sm (fun d => fb_ct (fun i => decide (16 ≤ ly A c x (16 + 12 * d + i))) (ly A c x (12 + d))) (S 1) = fb_sm (fun k => if k = c then fb_ct (fun i => decide (16 ≤ A (16 + 12 * c + i))) (A (12 + c)) + (if x < 16 then 0 else 1) else fb_ct (fun i => decide (16 ≤ A (16 + 12 * k + i))) (A (12 + k))) (S 1) := by
      refine fb_sm_cong fun k hk => ?_
      have sk := hsz k hk
      show fb_ct (fun i => decide (16 ≤ ly A c x (16 + 12 * k + i))) (ly A c x (12 + k)) = _
      rw [ly_s (by omega)]
      have hin : ∀ i, i < A (12 + k) → decide (16 ≤ ly A c x (16 + 12 * k + i)) = decide (16 ≤ A (16 + 12 * k + i)) := by
        intro i hi
        rw [ly_c (by omega) (by omega) sc (by omega), if_neg]
        rintro ⟨rfl, q⟩
        omega
      by_cases q : k = c
      · rw [if_pos q, if_pos q, fb_ct_succ]
        subst q
        rw [fb_ct_cong hin]
        congr 1
        have e16 : ly A k x (16 + 12 * k + A (12 + k)) = x := by rw [ly_c (by omega) (by omega) sc sc, if_pos ⟨rfl, rfl⟩]
        rw [e16]
        by_cases z : x < 16
        · rw [if_neg (by rw [decide_eq_false (by omega)]; decide), if_pos z]
        · rw [if_pos (decide_eq_true (by omega)), if_neg z]
      · rw [if_neg q, if_neg q, fb_ct_cong hin]
    have h := fb_sm_upd (fun k => fb_ct (fun i => decide (16 ≤ A (16 + 12 * k + i))) (A (12 + k))) (fb_ct (fun i => decide (16 ≤ A (16 + 12 * c + i))) (A (12 + c)) + (if x < 16 then 0 else 1)) (i := c) (n := S 1) hc
    rw [e]
    have h : fb_sm (fun k => if k = c then fb_ct (fun i => decide (16 ≤ A (16 + 12 * c + i))) (A (12 + c)) + (if x < 16 then 0 else 1) else fb_ct (fun i => decide (16 ≤ A (16 + 12 * k + i))) (A (12 + k))) (S 1) + fb_ct (fun i => decide (16 ≤ A (16 + 12 * c + i))) (A (12 + c)) = fb_sm (fun d => fb_ct (fun i => decide (16 ≤ A (16 + 12 * d + i))) (A (12 + d))) (S 1) + (fb_ct (fun i => decide (16 ≤ A (16 + 12 * c + i))) (A (12 + c)) + (if x < 16 then 0 else 1)) := h
    by_cases z : x < 16
    · rw [if_pos z] at h ⊢; rw [if_pos z]; omega
    · rw [if_neg z] at h ⊢; rw [if_neg z]; omega
  · rcases hx with hx | hx
    · rw [if_neg (by omega)]; omega
    · rw [if_pos hx.1]; exact h5
  · by_cases z : x < 16
    · rw [if_pos z]; exact or_lt (k := 16) h6 (pw_lt z)
    · rw [if_neg z]; exact h6
  · intro y hy
    have sc := hsz c hc
    have hbit : (if x < 16 then M ||| 2 ^ x else M).testBit y = true ↔ (M.testBit y = true ∨ y = x) := by
      by_cases z : x < 16
      · rw [if_pos z, bit_set, Bool.or_eq_true, decide_eq_true_iff]
      · rw [if_neg z]
        exact ⟨Or.inl, fun q => q.elim id fun q => by omega⟩
    rw [hbit, h7 y hy]
    constructor
    · rintro (⟨d, i, hd, hi, he⟩ | rfl)
      · have sd := hsz d hd
        refine ⟨d, i, hd, ?_, ?_⟩
        · rw [ly_s (by omega)]
          split
          · rename_i e; subst e; omega
          · exact hi
        · rw [ly_c (by omega) (by omega) sc (by omega), if_neg]
          · exact he
          · rintro ⟨rfl, q⟩; omega
      · refine ⟨c, A (12 + c), hc, ?_, ?_⟩
        · rw [ly_s (by omega), if_pos rfl]; omega
        · rw [ly_c (by omega) (by omega) sc sc, if_pos ⟨rfl, rfl⟩]
    · rintro ⟨d, i, hd, hi, he⟩
      have sd := hsz d hd
      rw [ly_s (by omega)] at hi
      rw [ly_c (by omega) (by omega) sc (by split at hi <;> omega)] at he
      by_cases q : d = c ∧ i = A (12 + c)
      · rw [if_pos q] at he; exact Or.inr he.symm
      · rw [if_neg q] at he
        refine Or.inl ⟨d, i, hd, ?_, he⟩
        split at hi
        · rename_i e; subst e; omega
        · exact hi
/-- the class's draft of a table -/
def CT (S A : Nat → Nat) (all u M : Nat) (m : rn_Mem) : Prop := m.1 37 0 = 1 ∧ m.1 37 4 = nI all ∧ m.1 37 5 = nI M ∧ m.1 37 6 = nI u ∧ (∀ d, d < 4 → m.1 38 d = nI (A (12 + d)) ∧ m.1 39 d = nI (A (12 + d) / S 1)) ∧ ∀ d i, d < S 1 → i < A (12 + d) → m.1 40 (12 * d + i) = cC (A (16 + 12 * d + i))
/-- the reference's -/
def MT (S A : Nat → Nat) (m : rn_Mem) : Prop := (∀ d, d < S 1 → m.1 118 d = nI (A (12 + d))) ∧ ∀ d i, d < S 1 → i < A (12 + d) → m.1 118 (4 + 12 * d + i) = zC (A (16 + 12 * d + i))
theorem div_s {s n : Nat} (hn : 0 < n) : (s + 1 = (s / n + 1) * n → (s + 1) / n = s / n + 1) ∧ (¬ s + 1 = (s / n + 1) * n → (s + 1) / n = s / n) := by
  have h1 := Nat.div_add_mod s n
  have h2 := Nat.mod_lt s hn
  have h3 : (s / n + 1) * n = n * (s / n) + n := by rw [Nat.add_mul, Nat.one_mul, Nat.mul_comm]
  constructor
  · intro h
    rw [h, Nat.mul_div_cancel _ hn]
  · intro h
    rw [Nat.div_eq_iff hn]
    constructor
    · rw [Nat.mul_comm]; omega
    · rw [Nat.mul_comm]; omega
def Pct (p i : Nat) : Prop := (37 ≤ p ∧ p ≤ 40) ∨ (p = 1 ∧ i = 2)
theorem ta_lay_sp {S A : Nat → Nat} {all u M c x nf : Nat} {m : rn_Mem} (hn1 : 2 ≤ S 1) (hn4 : S 1 ≤ 4) (hall : all < 12) (h : IV S A all u M) (hc : c < S 1) (hx : x ≤ 16) (hC : CT S A all u M m) : ∃ m2, ta_lay nf 37 (nI c) (cC x) (nI (S 1)) m = some m2 ∧ CT S (ly A c x) (all + 1) (if x < 16 then u else u + 1) (if x < 16 then M ||| 2 ^ x else M) m2 ∧ Kq Pct m m2 ∧ m2.1 1 2 = m.1 1 2 := by
  obtain ⟨c0, c1, c2, c3, c4, c5⟩ := hC
  have hsz : ∀ d, d < S 1 → A (12 + d) < 12 := fun d hd => by have := IV_sz h hd; omega
  have sc := hsz c hc
  have hin : rn_in (nI c) 4 = true := (in_n (by omega)).mpr (by omega)
  have hM := h.2.2.2.2.2.1
  have hu := h.2.2.2.2.1
  generalize hm18 : (if x < 16 then rm_i (rm_i (rm_i (rm_i m 40 (12 * c + A (12 + c)) (cC x)) 38 c (nI (A (12 + c) + 1))) 37 4 (nI (all + 1))) 37 5 (nI (M ||| 2 ^ x)) else rm_i (rm_i (rm_i (rm_i m 40 (12 * c + A (12 + c)) (cC x)) 38 c (nI (A (12 + c) + 1))) 37 4 (nI (all + 1))) 37 6 (nI (u + 1))) = m18
  have g : ∀ p i, m18.1 p i = if p = 40 ∧ i = 12 * c + A (12 + c) then cC x else if p = 38 ∧ i = c then nI (A (12 + c) + 1) else if p = 37 ∧ i = 4 then nI (all + 1) else if p = 37 ∧ i = 5 ∧ x < 16 then nI (M ||| 2 ^ x) else if p = 37 ∧ i = 6 ∧ ¬ x < 16 then nI (u + 1) else m.1 p i := by
    intro p i
    rw [← hm18]
    by_cases z : x < 16
    · rw [if_pos z]
      simp only [mi_get, z, and_true, not_true_eq_false, and_false, if_false]
      by_cases q1 : p = 40 ∧ i = 12 * c + A (12 + c)
      · simp (disch := omega) only [if_pos, if_neg]
      · by_cases q2 : p = 38 ∧ i = c
        · simp (disch := omega) only [if_pos, if_neg]
        · by_cases q3 : p = 37 ∧ i = 4
          · simp (disch := omega) only [if_pos, if_neg]
          · by_cases q4 : p = 37 ∧ i = 5
            · simp (disch := omega) only [if_pos, if_neg]
            · simp (disch := omega) only [if_pos, if_neg]
    · rw [if_neg z]
      simp only [mi_get, z, and_true, not_false_eq_true, and_false, if_false]
      by_cases q1 : p = 40 ∧ i = 12 * c + A (12 + c)
      · simp (disch := omega) only [if_pos, if_neg]
      · by_cases q2 : p = 38 ∧ i = c
        · simp (disch := omega) only [if_pos, if_neg]
        · by_cases q3 : p = 37 ∧ i = 4
          · simp (disch := omega) only [if_pos, if_neg]
          · by_cases q4 : p = 37 ∧ i = 6
            · simp (disch := omega) only [if_pos, if_neg]
            · simp (disch := omega) only [if_pos, if_neg]
  have h2 : m18.2 = m.2 := by
    rw [← hm18]; split <;> rfl
  have hk18 : Kq Pct m m18 := by
    refine ⟨fun p i hp => ?_, h2⟩
    unfold Pct at hp
    rw [g, if_neg (by omega), if_neg (by omega), if_neg (by omega), if_neg (by omega), if_neg (by omega)]
  have e39 : m18.1 39 c = nI (A (12 + c) / S 1) := by
    rw [g, if_neg (by omega), if_neg (by omega), if_neg (by omega), if_neg (by omega), if_neg (by omega)]
    exact (c4 c (by omega)).2
  have hdl : A (12 + c) / S 1 ≤ A (12 + c) := Nat.div_le_self _ _
  have hmul : (A (12 + c) / S 1 + 1) * S 1 ≤ 13 * 4 := Nat.mul_le_mul (by omega) (by omega)
  have hrun : ta_lay nf 37 (nI c) (cC x) (nI (S 1)) m = if A (12 + c) + 1 = (A (12 + c) / S 1 + 1) * S 1 then some (rm_i m18 39 c (nI (A (12 + c) / S 1 + 1))) else some m18 := by
    unfold ta_lay
    rw [lt_isNoChair_eq, nI_int (by omega), if_pos (by omega)]
    simp only [Option.bind_some, if_true, hin]
    rw [nI_n (by omega), (c4 c (by omega)).1, if_pos (by rw [k12, nI_ltI (by omega) (by omega)]; omega), k12, pk_mul, nI_add, if_pos ((in_n (by omega)).mpr (by omega)), nI_n (by omega), show c * 12 = 12 * c by omega]
    have e38 : (rm_i m (37 + 3) (12 * c + A (12 + c)) (cC x)).1 (37 + 1) c = nI (A (12 + c)) := by
      rw [mi_get, if_neg (by omega)]; exact (c4 c (by omega)).1
    rw [e38, nI_1]
    have e374 : (rm_i (rm_i m (37 + 3) (12 * c + A (12 + c)) (cC x)) (37 + 1) c (nI (A (12 + c) + 1))).1 37 4 = nI all := by
      rw [mi_get, if_neg (by omega), mi_get, if_neg (by omega)]; exact c1
    rw [e374, nI_1]
    have e375 : (rm_i (rm_i (rm_i m (37 + 3) (12 * c + A (12 + c)) (cC x)) (37 + 1) c (nI (A (12 + c) + 1))) 37 4 (nI (all + 1))).1 37 5 = nI M := by
      rw [mi_get, if_neg (by omega), mi_get, if_neg (by omega), mi_get, if_neg (by omega)]; exact c2
    have e376 : (rm_i (rm_i (rm_i m (37 + 3) (12 * c + A (12 + c)) (cC x)) (37 + 1) c (nI (A (12 + c) + 1))) 37 4 (nI (all + 1))).1 37 6 = nI u := by
      rw [mi_get, if_neg (by omega), mi_get, if_neg (by omega), mi_get, if_neg (by omega)]; exact c3
    have hsel : (if cC x = -4 then some (rm_i (rm_i (rm_i (rm_i m (37 + 3) (12 * c + A (12 + c)) (cC x)) (37 + 1) c (nI (A (12 + c) + 1))) 37 4 (nI (all + 1))) 37 6 (nI u + 1)) else some (rm_i (rm_i (rm_i (rm_i m (37 + 3) (12 * c + A (12 + c)) (cC x)) (37 + 1) c (nI (A (12 + c) + 1))) 37 4 (nI (all + 1))) 37 5 (nI M ||| ((1 : Int32) <<< (cC x &&& 31))))) = some m18 := by
      rw [← hm18]
      by_cases z : x < 16
      · rw [if_neg (by rw [cC_4]; omega), if_pos z]
        have ex : cC x = nI x := by unfold cC; rw [if_pos z]
        rw [ex, shl_1 (by omega), fa_or]
      · rw [if_pos (by rw [cC_4]; omega), if_neg z, nI_1]
    rw [e375, e376, hsel]
    simp only [Option.bind_some]
    rw [show m18.1 (37 + 1) c = nI (A (12 + c) + 1) by rw [g, if_neg (by omega), if_pos ⟨rfl, rfl⟩], show m18.1 (37 + 2) c = nI (A (12 + c) / S 1) from e39, nI_1, pk_mul]
    by_cases q : A (12 + c) + 1 = (A (12 + c) / S 1 + 1) * S 1
    · rw [if_pos (by rw [nI_eq (by omega) (by omega)]; exact q), if_pos q]
    · rw [if_neg (by rw [nI_eq (by omega) (by omega)]; exact q), if_neg q]
  have hds := div_s (s := A (12 + c)) (n := S 1) (by omega)
  have hCT : ∀ m2 : rn_Mem, (∀ p i, p ≠ 39 → m2.1 p i = m18.1 p i) → (∀ d, d < 4 → d ≠ c → m2.1 39 d = m18.1 39 d) → m2.1 39 c = nI ((A (12 + c) + 1) / S 1) → CT S (ly A c x) (all + 1) (if x < 16 then u else u + 1) (if x < 16 then M ||| 2 ^ x else M) m2 := by
    intro m2 a1 a2 a3
    refine ⟨?_, ?_, ?_, ?_, fun d hd => ⟨?_, ?_⟩, fun d i hd hi => ?_⟩
    · rw [a1 37 0 (by omega), g, if_neg (by omega), if_neg (by omega), if_neg (by omega), if_neg (by omega), if_neg (by omega)]; exact c0
    · rw [a1 37 4 (by omega), g, if_neg (by omega), if_neg (by omega), if_pos ⟨rfl, rfl⟩]
    · rw [a1 37 5 (by omega), g, if_neg (by omega), if_neg (by omega), if_neg (by omega)]
      by_cases z : x < 16
      · rw [if_pos ⟨rfl, rfl, z⟩, if_pos z]
      · rw [if_neg (fun y => z y.2.2), if_neg (by omega), if_neg z]; exact c2
    · rw [a1 37 6 (by omega), g, if_neg (by omega), if_neg (by omega), if_neg (by omega), if_neg (by omega)]
      by_cases z : x < 16
      · rw [if_neg (fun y => y.2.2 z), if_pos z]; exact c3
      · rw [if_pos ⟨rfl, rfl, z⟩, if_neg z]
    · rw [a1 38 d (by omega), g, if_neg (by omega), ly_s hd]
      by_cases q : d = c
      · rw [if_pos ⟨rfl, q⟩, if_pos q]
      · rw [if_neg (fun y => q y.2), if_neg (by omega), if_neg (by omega), if_neg (by omega), if_neg q]; exact (c4 d hd).1
    · rw [ly_s hd]
      by_cases q : d = c
      · rw [if_pos q, q]; exact a3
      · rw [a2 d hd q, if_neg q, g, if_neg (by omega), if_neg (by omega), if_neg (by omega), if_neg (by omega), if_neg (by omega)]; exact (c4 d hd).2
    · rw [ly_s (by omega)] at hi
      have sd := hsz d hd
      have hi12 : i < 12 := by split at hi <;> omega
      rw [a1 40 _ (by omega), g, ly_c (by omega) (by omega) sc hi12]
      by_cases q : d = c ∧ i = A (12 + c)
      · rw [if_pos (by rw [q.1, q.2]; exact ⟨rfl, rfl⟩), if_pos q]
      · rw [if_neg (by omega), if_neg (by omega), if_neg (by omega), if_neg (by omega), if_neg (by omega), if_neg q]
        refine c5 d i hd ?_
        split at hi
        · rename_i e; subst e; omega
        · exact hi
  have h12 : m18.1 1 2 = m.1 1 2 := by rw [g, if_neg (by omega), if_neg (by omega), if_neg (by omega), if_neg (by omega), if_neg (by omega)]
  by_cases q : A (12 + c) + 1 = (A (12 + c) / S 1 + 1) * S 1
  · rw [if_pos q] at hrun
    refine ⟨_, hrun, hCT _ (fun p i hp => by rw [mi_get, if_neg (fun y => hp y.1)]) (fun d hd hdc => by rw [mi_get, if_neg (fun y => hdc y.2)]) ?_, hk18.sti (Or.inl (by omega)), by rw [mi_get, if_neg (by omega)]; exact h12⟩
    rw [mi_get, if_pos ⟨rfl, rfl⟩, hds.1 q]
  · rw [if_neg q] at hrun
    refine ⟨_, hrun, hCT _ (fun p i hp => rfl) (fun d hd hdc => rfl) ?_, hk18, h12⟩
    rw [e39, hds.2 q]
