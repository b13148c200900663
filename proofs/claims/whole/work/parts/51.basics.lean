/-! PURE BASICS: the memory read behind a store; small numbers -/
theorem mi_get (m : rn_Mem) (p i : Nat) (x : Int32) (q j : Nat) : (rm_i m p i x).1 q j = if q = p ∧ j = i then x else m.1 q j := by
  show rn_up m.1 p i x q j = _
  unfold rn_up upd
  by_cases h : q = p
  · subst h
    by_cases h2 : j = i
    · simp [h2]
    · simp [h2]
  · simp [h]
theorem mi_2 (m : rn_Mem) (p i : Nat) (x : Int32) : (rm_i m p i x).2 = m.2 := rfl
theorem mj_1 (m : rn_Mem) (p i : Nat) (x : Int64) : (rm_j m p i x).1 = m.1 := rfl
theorem mj_get (m : rn_Mem) (p i : Nat) (x : Int64) (q j : Nat) : (rm_j m p i x).2 q j = if q = p ∧ j = i then x else m.2 q j := by
  show rn_uq m.2 p i x q j = _
  unfold rn_uq vp_updL
  by_cases h : q = p
  · subst h
    by_cases h2 : j = i
    · simp [h2]
    · simp [h2]
  · simp [h]
theorem mc_2 (m : rn_Mem) (p q a b n : Nat) : (rm_c m p q a b n).2 = m.2 := rfl
theorem mc_get (m : rn_Mem) (p q sp dp n a j : Nat) : (rm_c m p q sp dp n).1 a j = if a = q ∧ dp ≤ j ∧ j < dp + n then m.1 p (sp + (j - dp)) else m.1 a j := by
  show rn_row m.1 q _ a j = _
  unfold rn_row va_cpy
  by_cases h : a = q
  · subst h
    by_cases h2 : dp ≤ j ∧ j < dp + n
    · simp [h2]
    · simp [h2]
  · simp [h]
theorem lc_lt (x y : Int64) : lg_cmp x y < 0 ↔ x < y := by
  unfold lg_cmp
  rw [Int64.lt_iff_toInt_lt (x := x) (y := y)]
  split
  · rename_i h
    have h := Int64.lt_iff_toInt_lt.mp h
    exact ⟨fun z => absurd z (by decide), fun z => by omega⟩
  · split
    · rename_i h
      subst h
      exact ⟨fun z => absurd z (by decide), fun z => by omega⟩
    · rename_i h1 h2
      have h1 : ¬ y.toInt < x.toInt := fun z => h1 (Int64.lt_iff_toInt_lt.mpr z)
      have h2 : x.toInt ≠ y.toInt := fun z => h2 (Int64.toInt_inj.mp z)
      exact ⟨fun _ => by omega, fun _ => by decide⟩
theorem lc_gt (x y : Int64) : 0 < lg_cmp x y ↔ y < x := by
  unfold lg_cmp
  rw [Int64.lt_iff_toInt_lt (x := y) (y := x)]
  split
  · rename_i h
    have h := Int64.lt_iff_toInt_lt.mp h
    exact ⟨fun _ => h, fun _ => by decide⟩
  · rename_i h1
    have h1 : ¬ y.toInt < x.toInt := fun z => h1 (Int64.lt_iff_toInt_lt.mpr z)
    split
    · exact ⟨fun z => absurd z (by decide), fun z => absurd z h1⟩
    · exact ⟨fun z => absurd z (by decide), fun z => absurd z h1⟩
theorem mo_in_j (n : Nat) (x lo hi : Int64) (m : rn_Mem) : mo_in n x lo hi m = some (if lo.toInt ≤ x.toInt ∧ x.toInt ≤ hi.toInt then 1 else 0, m) := by
  unfold mo_in
  simp only [lc_lt, lc_gt, Int64.lt_iff_toInt_lt]
  by_cases h1 : x.toInt < lo.toInt
  · rw [if_pos h1, if_neg (by omega)]
  · rw [if_neg h1]
    by_cases h2 : hi.toInt < x.toInt
    · rw [if_pos h2, if_neg (by omega)]
    · rw [if_neg h2, if_pos (by omega)]
theorem mo_in_i (n : Nat) (x : Int32) (lo hi : Int64) (l h : Int) (m : rn_Mem) (hl : lo.toInt = l) (hh : hi.toInt = h) : mo_in n x.toInt64 lo hi m = some (if l ≤ x.toInt ∧ x.toInt ≤ h then 1 else 0, m) := by
  rw [mo_in_j, hl, hh, Int32.toInt_toInt64]
theorem in_iff {i : Int32} {n : Nat} : rn_in i n = true ↔ 0 ≤ i.toInt ∧ i.toInt < n := by
  rw [← vp_in_iff]
  constructor
  · exact rn_in_ok
  · intro h
    unfold vp_in at h
    unfold rn_in
    exact decide_eq_true h
theorem i_nat {x : Int32} {k : Nat} (h0 : 0 ≤ x.toInt) (h1 : x.toInt < k) : ∃ j, j < k ∧ x = nI j := by
  have h2 : x.toInt < 2147483648 := by have := Int32.toInt_lt x; omega
  refine ⟨x.toInt.toNat, by omega, ?_⟩
  apply Int32.toInt_inj.mp
  rw [nI_toInt (by omega)]
  omega
theorem nI_n {k : Nat} (h : k < 2 ^ 31) : (nI k).toNatClampNeg = k := nI_clamp h
theorem i_lt {a b : Int32} : a < b ↔ a.toInt < b.toInt := Int32.lt_iff_toInt_lt
theorem i_eq {a b : Int32} : a = b ↔ a.toInt = b.toInt := Int32.toInt_inj.symm
theorem nI_int {k : Nat} (h : k < 2 ^ 31) : (nI k).toInt = k := nI_toInt h
