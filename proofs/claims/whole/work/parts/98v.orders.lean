/-! THE REFERENCE'S SEARCH: the orders of a trick -/
theorem fo_l257 {S f : Nat → Nat} {k q : Nat} {a1 a2 a4 : Int32} (wg : WG S) (hk : k < 4) (hq : q < fac (S 1)) : ∀ (r j nf : Nat) (m : rn_Mem), j + r = S 1 → r + 50 < nf → m.1 116 1 = nI (S 1) → (∀ t, t < S 1 → m.1 130 (4 * k + t) = nI (f t)) → (∀ t, t < j → m.1 119 t = nI (f (od (S 1) q t))) → ∃ m2, mo_findOrders_l257 a1 a2 (nI k) a4 (nI q) nf (nI j) m = some m2 ∧ (∀ t, t < S 1 → m2.1 119 t = nI (f (od (S 1) q t))) ∧ m2.2 = m.2 ∧ ∀ p, p ≠ 119 → m2.1 p = m.1 p := by
  have w1 : 2 ≤ S 1 := wg.1
  have w2 : S 1 ≤ 4 := wg.2.1
  intro r
  induction r with
  | zero =>
    intro j nf m e hnf z1 h130 h
    obtain ⟨nf, rfl⟩ : ∃ e, nf = e + 1 := ⟨nf - 1, by omega⟩
    obtain rfl : j = S 1 := by omega
    refine ⟨m, ?_, h, rfl, fun _ _ => rfl⟩
    rw [mo_findOrders_l257, z1, if_neg (by rw [nI_ltI (by omega) (by omega)]; omega)]
  | succ r ih =>
    intro j nf m e hnf z1 h130 h
    obtain ⟨nf, rfl⟩ : ∃ e, nf = e + 1 := ⟨nf - 1, by omega⟩
    have ho : od (S 1) q j < S 1 := by
      have hf : fac (S 1) ≤ 24 := by
        have : S 1 = 2 ∨ S 1 = 3 ∨ S 1 = 4 := by omega
        rcases this with y | y | y <;> rw [y] <;> decide
      exact od_lt (S 1) (by omega) w1 q (by omega) hq j (by omega)
    generalize hmr : rm_i m 119 j (nI (f (od (S 1) q j))) = mr
    have f1 : ∀ p, p ≠ 119 → mr.1 p = m.1 p := fun p h1 => by rw [← hmr]; funext i; rw [mi_get, if_neg (fun t => h1 t.1)]
    obtain ⟨m2, p1, p2, p3, p4⟩ := ih (j + 1) nf mr (by omega) (by omega) (by rw [f1 116 (by omega)]; exact z1) (by rw [f1 130 (by omega)]; exact h130) (fun t ht => by
      rw [← hmr, mi_get]
      by_cases y : t = j
      · rw [if_pos ⟨rfl, y⟩, y]
      · rw [if_neg (fun u => y u.2)]; exact h t (by omega))
    refine ⟨m2, ?_, p2, by rw [p3, ← hmr]; rfl, fun p hp => by rw [p4 p hp, f1 p hp]⟩
    rw [mo_findOrders_l257, z1, if_pos (by rw [nI_ltI (by omega) (by omega)]; omega), ordered_sp (by omega) (by omega) w2 hq (by omega), Option.bind_some]
    simp only []
    rw [k4, pk_mul, nI_add, if_pos ((in_n (by omega)).mpr (by omega)), if_pos ((in_n (by omega)).mpr (by omega)), nI_n (by omega), nI_n (show 4 * k + od (S 1) q j < 2 ^ 31 by omega), h130 _ ho, hmr, Option.bind_some, nI_1, Option.bind_some]
    exact p1
/-- order q of cards f, led by L, is won by c -/
def okO (S : Nat → Nat) (tr L c : Nat) (f : Nat → Nat) (q : Nat) : Bool := decide ((L + wp tr (fun j => f (od (S 1) q j)) (S 1 - 1)) % S 1 = c)
theorem fo_l225 {S f : Nat → Nat} {k c L tr : Nat} {a1 a2 : Int32} (wg : WG S) (hk : k < 4) (hc : c < S 1) (hL : L < S 1) (hf : ∀ j, j < S 1 → f j < 16) : ∀ (r q nf : Nat) (m : rn_Mem), q + r = noS S → r + 100 < nf → zOT S (m.1 116) → m.1 115 8 = zT tr → m.1 129 k = nI L → (∀ t, t < S 1 → m.1 130 (4 * k + t) = nI (f t)) → m.1 132 k = nI (fb_ct (okO S tr L c f) q) → (∀ y, y < q → okO S tr L c f y = true → m.1 131 (24 * k + fb_ct (okO S tr L c f) y) = nI y) → ∃ m2, mo_findOrders_l225 a1 a2 (nI k) (nI c) nf (nI q) m = some m2 ∧ m2.1 132 k = nI (fb_ct (okO S tr L c f) (noS S)) ∧ (∀ y, y < noS S → okO S tr L c f y = true → m2.1 131 (24 * k + fb_ct (okO S tr L c f) y) = nI y) ∧ m2.2 = m.2 ∧ (∀ i, i ≠ k → m2.1 132 i = m.1 132 i) ∧ (∀ x, x < 24 * k ∨ 24 * k + 24 ≤ x → m2.1 131 x = m.1 131 x) ∧ ∀ p, p ≠ 119 → p ≠ 131 → p ≠ 132 → m2.1 p = m.1 p := by
  have w1 : 2 ≤ S 1 := wg.1
  have w2 : S 1 ≤ 4 := wg.2.1
  have hno := noS_le (S := S) w1 w2
  have hnf' := noS_f (S := S) w1 w2
  have head : ∀ (nf : Nat) (m : rn_Mem), 20 < nf → zOT S (m.1 116) → (if (m.1 116 7) = 1 then (mo_ordersOf nf (m.1 116 1) m).bind fun (r52, m51) => some (r52, m51) else some ((1 : Int32), m)) = some (nI (noS S), m) := by
    intro nf m hn hz
    have z1 : m.1 116 1 = nI (S 1) := hz.1 1 (by omega) (by omega) (by omega) (by omega)
    have z7 : m.1 116 7 = nI (S 7) := hz.1 7 (by omega) (by omega) (by omega) (by omega)
    have h7 : S 7 ≤ 1 := wg.2.2.2.2.2.2.2.2.2.1
    unfold noS
    rw [z7, z1]
    by_cases y : S 7 = 1
    · rw [if_pos (by rw [y]; rfl), if_pos y, ordersOf_sp (by omega) w2]
      rfl
    · rw [if_neg (by rw [show (1 : Int32) = nI 1 from rfl, nI_eq (by omega) (by omega)]; exact y), if_neg y]
      rfl
  intro r
  induction r with
  | zero =>
    intro q nf m e hnf hz h8 h129 h130 h132 h131
    obtain ⟨nf, rfl⟩ : ∃ e, nf = e + 1 := ⟨nf - 1, by omega⟩
    obtain rfl : q = noS S := by omega
    refine ⟨m, ?_, h132, h131, rfl, fun _ _ => rfl, fun _ _ => rfl, fun _ _ _ _ => rfl⟩
    rw [mo_findOrders_l225]
    simp only []
    rw [head nf m (by omega) hz, Option.bind_some]
    simp only []
    rw [if_neg (by rw [nI_ltI (by omega) (by omega)]; omega)]
  | succ r ih =>
    intro q nf m e hnf hz h8 h129 h130 h132 h131
    obtain ⟨nf, rfl⟩ : ∃ e, nf = e + 1 := ⟨nf - 1, by omega⟩
    have z1 : m.1 116 1 = nI (S 1) := hz.1 1 (by omega) (by omega) (by omega) (by omega)
    obtain ⟨m1, q1, q2, q3, q4⟩ := fo_l257 (f := f) (a1 := a1) (a2 := a2) (a4 := nI c) wg hk (show q < fac (S 1) by omega) (S 1) 0 nf m (by omega) (by omega) z1 h130 (fun t ht => absurd ht (Nat.not_lt_zero t))
    have ho : ∀ j, j < S 1 → f (od (S 1) q j) < 16 := fun j hj => hf _ (od_lt (S 1) (by omega) w1 q (by omega) (by omega) j hj)
    have hwin : mo_winning nf 119 0 (m1.1 116 1) (m1.1 115 8) m1 = some (nI (wp tr (fun j => f (od (S 1) q j)) (S 1 - 1)), m1) := by
      rw [q4 116 (by omega), q4 115 (by omega), z1, h8]
      have hal : rn_al 119 = 4 := by decide
      exact winning_sp (fr := 0) (by rw [hal]; omega) (by omega) (by omega) (by omega) (fun j hj => by rw [Nat.zero_add]; exact q2 j hj) ho
    have hwp : wp tr (fun j => f (od (S 1) q j)) (S 1 - 1) ≤ S 1 - 1 := wp_le _ _ _
    have hsu := fb_ct_succ (okO S tr L c f) q
    have hz1 : zOT S (m1.1 116) := by rw [q4 116 (by omega)]; exact hz
    have hcl : fb_ct (okO S tr L c f) q ≤ q := fb_ct_le _ _
    have hrem : rn_rem (m1.1 129 k + nI (wp tr (fun j => f (od (S 1) q j)) (S 1 - 1))) (nI (S 1)) = nI ((L + wp tr (fun j => f (od (S 1) q j)) (S 1 - 1)) % S 1) := by
      rw [q4 129 (by omega), h129, nI_add, rem_n (by omega) (by omega) (by omega)]
    have hmod : (L + wp tr (fun j => f (od (S 1) q j)) (S 1 - 1)) % S 1 < S 1 := Nat.mod_lt _ (by omega)
    have pre : ∀ R : rn_Mem → Option rn_Mem, (∀ m84, R m84 = mo_findOrders_l225 a1 a2 (nI k) (nI c) nf (nI (q + 1)) m84) → mo_findOrders_l225 a1 a2 (nI k) (nI c) (nf + 1) (nI q) m = (if okO S tr L c f q = true then R (rm_i (rm_i m1 131 (24 * k + fb_ct (okO S tr L c f) q) (nI q)) 132 k (nI (fb_ct (okO S tr L c f) q + 1))) else R m1) := by
      intro R hR
      have i4 : rn_in (nI k) 4 = true := (in_n (by omega)).mpr (by omega)
      have e132 : m1.1 132 k = nI (fb_ct (okO S tr L c f) q) := by rw [q4 132 (by omega)]; exact h132
      rw [mo_findOrders_l225]
      simp only []
      rw [head nf m (by omega) hz, Option.bind_some]
      simp only []
      rw [if_pos (by rw [nI_ltI (by omega) (by omega)]; omega), show mo_findOrders_l257 a1 a2 (nI k) (nI c) (nI q) nf 0 m = some m1 from q1, Option.bind_some]
      rw [if_pos i4, hwin, Option.bind_some]
      simp only []
      rw [q4 116 (by omega), z1, if_pos (nI_ne0 (by omega) (by omega)), nI_n (show k < 2 ^ 31 by omega), hrem]
      by_cases y : okO S tr L c f q = true
      · have y' : (L + wp tr (fun j => f (od (S 1) q j)) (S 1 - 1)) % S 1 = c := of_decide_eq_true y
        rw [if_pos y, if_pos (by rw [y']), if_pos i4, e132, k24, pk_mul, nI_add, if_pos ((in_n (by omega)).mpr (by omega)), nI_n (show 24 * k + fb_ct (okO S tr L c f) q < 2 ^ 31 by omega), Option.bind_some, if_pos i4, if_pos i4, show (rm_i m1 131 (24 * k + fb_ct (okO S tr L c f) q) (nI q)).1 132 k = nI (fb_ct (okO S tr L c f) q) by rw [mi_get, if_neg (by omega)]; exact e132, nI_1, Option.bind_some, Option.bind_some, nI_1, Option.bind_some, hR]
      · have y' : ¬ (L + wp tr (fun j => f (od (S 1) q j)) (S 1 - 1)) % S 1 = c := fun t => y (decide_eq_true t)
        rw [if_neg y, if_neg (by rw [nI_eq (by omega) (by omega)]; exact y'), Option.bind_some, nI_1, Option.bind_some, hR]
    rw [pre (mo_findOrders_l225 a1 a2 (nI k) (nI c) nf (nI (q + 1))) fun _ => rfl]
    by_cases y : okO S tr L c f q = true
    · rw [if_pos y] at hsu ⊢
      generalize hmr : rm_i (rm_i m1 131 (24 * k + fb_ct (okO S tr L c f) q) (nI q)) 132 k (nI (fb_ct (okO S tr L c f) q + 1)) = mr
      have f1 : ∀ p, p ≠ 131 → p ≠ 132 → mr.1 p = m1.1 p := fun p h1 h2 => by rw [← hmr]; funext i; rw [mi_get, if_neg (fun t => h2 t.1), mi_get, if_neg (fun t => h1 t.1)]
      obtain ⟨m2, p1, p2, p3, p4, p5, p6, p7⟩ := ih (q + 1) nf mr (by omega) (by omega) (by rw [f1 116 (by omega) (by omega)]; exact hz1) (by rw [f1 115 (by omega) (by omega), q4 115 (by omega)]; exact h8) (by rw [f1 129 (by omega) (by omega), q4 129 (by omega)]; exact h129) (by rw [f1 130 (by omega) (by omega), q4 130 (by omega)]; exact h130) (by rw [← hmr, mi_get, if_pos ⟨rfl, rfl⟩, hsu]) (fun t h1 h2 => by
        rw [← hmr, mi_get, if_neg (by omega), mi_get]
        by_cases u : t = q
        · rw [if_pos ⟨rfl, by rw [u]⟩, u]
        · have hne : fb_ct (okO S tr L c f) t ≠ fb_ct (okO S tr L c f) q := fun v => u (fb_ct_kth_one h2 y v)
          rw [if_neg (by omega), q4 131 (by omega)]
          exact h131 t (by omega) h2)
      refine ⟨m2, p1, p2, p3, by rw [p4, ← hmr]; exact q3, fun i hi => ?_, fun x hx => ?_, fun p h1 h2 h3 => by rw [p7 p h1 h2 h3, f1 p h2 h3, q4 p h1]⟩
      · rw [p5 i hi, ← hmr, mi_get, if_neg (fun t => hi t.2), mi_get, if_neg (by omega), q4 132 (by omega)]
      · rw [p6 x hx, ← hmr, mi_get, if_neg (by omega), mi_get, if_neg (by omega), q4 131 (by omega)]
    · rw [if_neg y] at hsu ⊢
      obtain ⟨m2, p1, p2, p3, p4, p5, p6, p7⟩ := ih (q + 1) nf m1 (by omega) (by omega) hz1 (by rw [q4 115 (by omega)]; exact h8) (by rw [q4 129 (by omega)]; exact h129) (by rw [q4 130 (by omega)]; exact h130) (by rw [q4 132 (by omega), hsu]; exact h132) (fun t h1 h2 => by
        rw [q4 131 (by omega)]
        by_cases u : t = q
        · rw [u] at h2; exact absurd h2 y
        · exact h131 t (by omega) h2)
      exact ⟨m2, p1, p2, p3, by rw [p4]; exact q3, fun i hi => by rw [p5 i hi, q4 132 (by omega)], fun x hx => by rw [p6 x hx, q4 131 (by omega)], fun p h1 h2 h3 => by rw [p7 p h1 h2 h3, q4 p h1]⟩
