/-! THE REFERENCE'S SEARCH: a trick's cards -/
theorem fo_l77 {S w : Nat → Nat} {k c : Nat} {m : rn_Mem} {a1 a2 : Int32} (wg : WG S) (hk : k < S 2) (hc : c < S 1) (hw : ∀ j, j < S 2 → m.1 128 j = nI (w j)) (hb : ∀ j, j < S 2 → w j < S 1) : ∀ (r j nf : Nat), j + r = k → r < nf → mo_findOrders_l77 a1 a2 (nI k) (nI c) nf (nI (fb_ct (fun j => decide (w j = c)) j)) (nI j) m = some (nI (fb_ct (fun j => decide (w j = c)) k), m) := by
  have w2 : S 1 ≤ 4 := wg.2.1
  have w4 : S 2 ≤ 4 := wg.2.2.2.1
  intro r
  induction r with
  | zero =>
    intro j nf e hnf
    obtain ⟨nf, rfl⟩ : ∃ e, nf = e + 1 := ⟨nf - 1, by omega⟩
    obtain rfl : j = k := by omega
    rw [mo_findOrders_l77, if_neg (by rw [nI_ltI (by omega) (by omega)]; omega)]
  | succ r ih =>
    intro j nf e hnf
    obtain ⟨nf, rfl⟩ : ∃ e, nf = e + 1 := ⟨nf - 1, by omega⟩
    have h := ih (j + 1) nf (by omega) (by omega)
    have hj := hb j (by omega)
    rw [fb_ct_succ] at h
    rw [mo_findOrders_l77, if_pos (by rw [nI_ltI (by omega) (by omega)]; omega), if_pos ((in_n (by omega)).mpr (by omega)), nI_n (by omega), hw j (by omega)]
    by_cases z : w j = c
    · rw [if_pos (decide_eq_true z)] at h
      rw [if_pos (by rw [z]), Option.bind_some, Option.bind_some, Option.bind_some, nI_1, nI_1]
      exact h
    · rw [if_neg (by rw [decide_eq_true_iff]; exact z), Nat.add_zero] at h
      rw [if_neg (by rw [nI_eq (by omega) (by omega)]; exact z), Option.bind_some, Option.bind_some, Option.bind_some, nI_1, k0, nI_add, Nat.add_zero]
      exact h
theorem fo_l152 {S f : Nat → Nat} {k c i : Nat} {a1 a2 : Int32} (wg : WG S) (hk : k < 4) (hc : c < S 1) (hi : S 1 * i + S 1 ≤ 12) (hf : ∀ j, j < S 1 → f j < 16) : ∀ (r j nf : Nat) (m : rn_Mem), j + r = S 1 → r < nf → m.1 116 1 = nI (S 1) → (∀ j, j < S 1 → m.1 127 (12 * c + S 1 * i + j) = nI (f j)) → (∀ t, t < j → m.1 130 (4 * k + t) = nI (f t) ∧ m.1 137 (f t) = nI k) → ∃ m2, mo_findOrders_l152 a1 a2 (nI k) (nI c) (nI i) nf (nI j) m = some m2 ∧ (∀ t, t < S 1 → m2.1 130 (4 * k + t) = nI (f t) ∧ m2.1 137 (f t) = nI k) ∧ (∀ x, (∀ t, t < S 1 → f t ≠ x) → m2.1 137 x = m.1 137 x) ∧ (∀ x, x < 4 * k ∨ 4 * k + 4 ≤ x → m2.1 130 x = m.1 130 x) ∧ m2.2 = m.2 ∧ ∀ p, p ≠ 130 → p ≠ 137 → m2.1 p = m.1 p := by
  have w2 : S 1 ≤ 4 := wg.2.1
  intro r
  induction r with
  | zero =>
    intro j nf m e hnf z1 h127 h
    obtain ⟨nf, rfl⟩ : ∃ e, nf = e + 1 := ⟨nf - 1, by omega⟩
    obtain rfl : j = S 1 := by omega
    refine ⟨m, ?_, h, fun _ _ => rfl, fun _ _ => rfl, rfl, fun _ _ _ => rfl⟩
    rw [mo_findOrders_l152, z1, if_neg (by rw [nI_ltI (by omega) (by omega)]; omega)]
  | succ r ih =>
    intro j nf m e hnf z1 h127 h
    obtain ⟨nf, rfl⟩ : ∃ e, nf = e + 1 := ⟨nf - 1, by omega⟩
    have hfj := hf j (by omega)
    have hx : 12 * c + S 1 * i + j < 48 := by omega
    generalize hmr : rm_i (rm_i m 130 (4 * k + j) (nI (f j))) 137 (f j) (nI k) = mr
    have f1 : ∀ p, p ≠ 130 → p ≠ 137 → mr.1 p = m.1 p := fun p h1 h2 => by rw [← hmr]; funext q; rw [mi_get, if_neg (fun t => h2 t.1), mi_get, if_neg (fun t => h1 t.1)]
    have f2 : ∀ x, mr.1 130 x = if x = 4 * k + j then nI (f j) else m.1 130 x := fun x => by
      rw [← hmr, mi_get, if_neg (by omega), mi_get]
      by_cases y : x = 4 * k + j
      · rw [if_pos ⟨rfl, y⟩, if_pos y]
      · rw [if_neg (fun t => y t.2), if_neg y]
    have f3 : ∀ x, mr.1 137 x = if x = f j then nI k else m.1 137 x := fun x => by
      rw [← hmr, mi_get]
      by_cases y : x = f j
      · rw [if_pos ⟨rfl, y⟩, if_pos y]
      · rw [if_neg (fun t => y t.2), if_neg y, mi_get, if_neg (by omega)]
    obtain ⟨m2, p1, p2, p3, p4, p5, p6⟩ := ih (j + 1) nf mr (by omega) (by omega) (by rw [f1 116 (by omega) (by omega)]; exact z1) (fun t ht => by rw [f1 127 (by omega) (by omega)]; exact h127 t ht) (fun t ht => by
      rw [f2, f3]
      by_cases y : t = j
      · rw [y, if_pos rfl, if_pos rfl]
        exact ⟨rfl, rfl⟩
      · rw [if_neg (by omega)]
        refine ⟨(h t (by omega)).1, ?_⟩
        by_cases q : f t = f j
        · rw [if_pos q]
        · rw [if_neg q]; exact (h t (by omega)).2)
    refine ⟨m2, ?_, p2, fun x hx' => by rw [p3 x hx', f3, if_neg (fun t => hx' j (by omega) t.symm)], fun x hx' => by rw [p4 x hx', f2, if_neg (by omega)], by rw [p5, ← hmr]; rfl, fun p h1 h2 => by rw [p6 p h1 h2, f1 p h1 h2]⟩
    rw [mo_findOrders_l152, z1, if_pos (by rw [nI_ltI (by omega) (by omega)]; omega), k12, k4, pk_mul, pk_mul, pk_mul, nI_add, nI_add, nI_add, if_pos ((in_n (by omega)).mpr hx), nI_n (show 12 * c + S 1 * i + j < 2 ^ 31 by omega), h127 j (by omega), Option.bind_some, if_pos ((in_n (by omega)).mpr (by omega)), nI_n (show 4 * k + j < 2 ^ 31 by omega), Option.bind_some, if_pos ((in_n (by omega)).mpr hfj), nI_n (show f j < 2 ^ 31 by omega), hmr, Option.bind_some, nI_1, Option.bind_some]
    exact p1
