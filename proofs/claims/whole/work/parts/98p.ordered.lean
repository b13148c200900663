/-! THE REFERENCE'S SEARCH: its orders -/
def o27 (a0 a6 : Int32) : Nat → Int32 → Int32 → Option Int32
  | 0, _, _ => none
  | n + 1, a7, a8 => if a8 < (a0 - a6) then o27 a0 a6 n (a7 * a8) (a8 + 1) else some a7
def o63 (a4 : Int32) : Nat → Int32 → Int32 → Option Int32
  | 0, _, _ => none
  | n + 1, a5, a8 => if ((a4 >>> (a5 &&& 31)) &&& 1) = 0 then o63 a4 n (a5 + 1) (a8 - ((a4 >>> (a5 &&& 31)) &&& 1)) else if 0 < a8 then o63 a4 n (a5 + 1) (a8 - ((a4 >>> (a5 &&& 31)) &&& 1)) else some a5
def o15 (a0 a2 : Int32) : Nat → Int32 → Int32 → Int32 → Int32 → Option Int32
  | 0, _, _, _, _ => none
  | n + 1, a3, a4, a5, a6 => if a2 < a6 then some a5 else (o27 a0 a6 n 1 2).bind fun x9 => if ¬ x9 = 0 then (o63 a4 n 0 (a3 / x9)).bind fun x26 => o15 a0 a2 n (rn_rem a3 x9) (a4 &&& (((1 : Int32) <<< (x26 &&& 31)) ^^^ (-1))) x26 (a6 + 1) else none
theorem o27_ok {a0 a2 a3 a4 a6 : Int32} : ∀ {n : Nat} {a7 a8 x : Int32} {m : rn_Mem}, o27 a0 a6 n a7 a8 = some x → ∀ d, mo_ordered_l27 a0 a2 a3 a4 a6 (n + d) a7 a8 m = some (x, m)
  | 0, a7, a8, x, m, h, d => by rw [o27] at h; exact absurd h (by simp)
  | n + 1, a7, a8, x, m, h, d => by
    rw [o27] at h
    rw [show n + 1 + d = n + d + 1 by omega, mo_ordered_l27]
    by_cases z : a8 < a0 - a6
    · rw [if_pos z] at h
      rw [if_pos z, Option.bind_some, Option.bind_some]
      exact o27_ok h d
    · rw [if_neg z] at h
      rw [if_neg z]
      injection h with h
      rw [h]
theorem o63_ok {a0 a2 a3 a4 a6 : Int32} : ∀ {n : Nat} {a5 a8 x : Int32} {m : rn_Mem}, o63 a4 n a5 a8 = some x → ∀ d, mo_ordered_l63 a0 a2 a3 a4 a6 (n + d) a5 a8 m = some (x, m)
  | 0, a5, a8, x, m, h, d => by rw [o63] at h; exact absurd h (by simp)
  | n + 1, a5, a8, x, m, h, d => by
    rw [o63] at h
    rw [show n + 1 + d = n + d + 1 by omega, mo_ordered_l63]
    by_cases z : ((a4 >>> (a5 &&& 31)) &&& 1) = 0
    · rw [if_pos z] at h
      rw [if_pos z, Option.bind_some, Option.bind_some]
      exact o63_ok h d
    · rw [if_neg z] at h
      rw [if_neg z]
      by_cases y : 0 < a8
      · rw [if_pos y] at h
        rw [if_pos y, Option.bind_some, Option.bind_some]
        exact o63_ok h d
      · rw [if_neg y] at h
        rw [if_neg y]
        injection h with h
        rw [h]
theorem o15_ok {a0 a2 : Int32} : ∀ {n : Nat} {a3 a4 a5 a6 x : Int32} {m : rn_Mem}, o15 a0 a2 n a3 a4 a5 a6 = some x → ∀ d, mo_ordered_l15 a0 a2 (n + d) a3 a4 a5 a6 m = some (x, m)
  | 0, a3, a4, a5, a6, x, m, h, d => by rw [o15] at h; exact absurd h (by simp)
  | n + 1, a3, a4, a5, a6, x, m, h, d => by
    rw [o15] at h
    rw [show n + 1 + d = n + d + 1 by omega, mo_ordered_l15]
    by_cases z : a2 < a6
    · rw [if_pos z] at h
      rw [if_pos z]
      injection h with h
      rw [h]
    · rw [if_neg z] at h
      rw [if_neg z]
      cases h1 : o27 a0 a6 n 1 2 with
      | none => rw [h1] at h; exact absurd h (by simp)
      | some x9 =>
        rw [h1, Option.bind_some] at h
        rw [o27_ok h1 d, Option.bind_some]
        by_cases y : ¬ x9 = 0
        · rw [if_pos y] at h
          simp only []
          rw [if_pos y, Option.bind_some, if_pos y, Option.bind_some]
          cases h2 : o63 a4 n 0 (a3 / x9) with
          | none => rw [h2] at h; exact absurd h (by simp)
          | some x26 =>
            rw [h2, Option.bind_some] at h
            rw [o63_ok h2 d, Option.bind_some, Option.bind_some, Option.bind_some]
            exact o15_ok h d
        · rw [if_neg y] at h
          exact absurd h (by simp)
theorem o15_e1 : ∀ q, q < 1 → ∀ j, j < 1 → o15 (nI 1) (nI j) 40 (nI q) (((1 : Int32) <<< (nI 1 &&& 31)) - 1) 0 0 = some (nI (od 1 q j)) := by decide +kernel
theorem o15_e2 : ∀ q, q < 2 → ∀ j, j < 2 → o15 (nI 2) (nI j) 40 (nI q) (((1 : Int32) <<< (nI 2 &&& 31)) - 1) 0 0 = some (nI (od 2 q j)) := by decide +kernel
theorem o15_e3 : ∀ q, q < 6 → ∀ j, j < 3 → o15 (nI 3) (nI j) 40 (nI q) (((1 : Int32) <<< (nI 3 &&& 31)) - 1) 0 0 = some (nI (od 3 q j)) := by decide +kernel
theorem o15_e4 : ∀ q, q < 24 → ∀ j, j < 4 → o15 (nI 4) (nI j) 40 (nI q) (((1 : Int32) <<< (nI 4 &&& 31)) - 1) 0 0 = some (nI (od 4 q j)) := by decide +kernel
theorem ordered_sp {n q j nf : Nat} {m : rn_Mem} (hnf : 40 ≤ nf) (h1 : 1 ≤ n) (h4 : n ≤ 4) (hq : q < fac n) (hj : j < n) : mo_ordered nf (nI n) (nI q) (nI j) m = some (nI (od n q j), m) := by
  have h : o15 (nI n) (nI j) 40 (nI q) (((1 : Int32) <<< (nI n &&& 31)) - 1) 0 0 = some (nI (od n q j)) := by
    have : n = 1 ∨ n = 2 ∨ n = 3 ∨ n = 4 := by omega
    rcases this with rfl | rfl | rfl | rfl
    · exact o15_e1 q hq j hj
    · exact o15_e2 q hq j hj
    · exact o15_e3 q hq j hj
    · exact o15_e4 q hq j hj
  unfold mo_ordered
  rw [Option.bind_some]
  have := o15_ok (m := m) h (nf - 40)
  rw [show 40 + (nf - 40) = nf by omega] at this
  rw [this]
  rfl
theorem ordersOf_sp {n nf : Nat} {m : rn_Mem} (hnf : 10 ≤ nf) (h4 : n ≤ 4) : mo_ordersOf nf (nI n) m = some (nI (fac n), m) := by
  obtain ⟨e, rfl⟩ : ∃ e, nf = e + 6 := ⟨nf - 6, by omega⟩
  have step : ∀ (k a nf : Nat), a < 1000 → k ≤ n → k < 10 → mo_ordersOf_l4 (nI n) (nf + 1) (nI a) (nI k) m = mo_ordersOf_l4 (nI n) nf (nI (a * k)) (nI (k + 1)) m := by
    intro k a nf ha hk hk10
    rw [mo_ordersOf_l4, if_neg (by rw [nI_ltI (by omega) (by omega)]; omega), pk_mul, nI_1, Option.bind_some, Option.bind_some]
  have last : ∀ (k a nf : Nat), n < k → k < 10 → mo_ordersOf_l4 (nI n) (nf + 1) (nI a) (nI k) m = some (nI a, m) := by
    intro k a nf hk hk10
    rw [mo_ordersOf_l4, if_pos (by rw [nI_ltI (by omega) (by omega)]; omega)]
  unfold mo_ordersOf
  have h : mo_ordersOf_l4 (nI n) (e + 6) (nI 1) (nI 2) m = some (nI (fac n), m) := by
    have : n = 0 ∨ n = 1 ∨ n = 2 ∨ n = 3 ∨ n = 4 := by omega
    rcases this with rfl | rfl | rfl | rfl | rfl
    · rw [last 2 1 (e + 5) (by omega) (by omega)]; rfl
    · rw [last 2 1 (e + 5) (by omega) (by omega)]; rfl
    · rw [step 2 1 (e + 5) (by omega) (by omega) (by omega), last 3 _ (e + 4) (by omega) (by omega)]; rfl
    · rw [step 2 1 (e + 5) (by omega) (by omega) (by omega), step 3 _ (e + 4) (by omega) (by omega) (by omega), last 4 _ (e + 3) (by omega) (by omega)]; rfl
    · rw [step 2 1 (e + 5) (by omega) (by omega) (by omega), step 3 _ (e + 4) (by omega) (by omega) (by omega), step 4 _ (e + 3) (by omega) (by omega) (by omega), last 5 _ (e + 2) (by omega) (by omega)]; rfl
  rw [show mo_ordersOf_l4 (nI n) (e + 6) 1 2 m = some (nI (fac n), m) from h]
  rfl
