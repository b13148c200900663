/-! THE REFERENCE'S SEARCH: what is not seen -/
def zOT (S : Nat → Nat) (z : Nat → Int32) : Prop := (∀ k, (k < 88 ∧ k ≠ 11) → (k ≠ 4 ∧ k ≠ 5 ∧ k ≠ 6) → k ≠ 8 → (k < 16 ∨ 64 ≤ k) → z k = nI (S k)) ∧ True ∧ z 8 = zT (S 8) ∧ ∀ k, 16 ≤ k → k < 64 → z k = zC (S k)
def zO3 (S : Nat → Nat) (z : Nat → Int32) : Prop := (∀ k, (k < 88 ∧ k ≠ 11) → k ≠ 4 → k ≠ 8 → (k < 16 ∨ 64 ≤ k) → z k = nI (S k)) ∧ z 4 = zT (S 4) ∧ z 8 = zT (S 8) ∧ ∀ k, 16 ≤ k → k < 64 → z k = zC (S k)
theorem zO3.t {S : Nat → Nat} {z : Nat → Int32} (h : zO3 S z) : zOT S z := ⟨fun k h1 h2 h3 h4 => h.1 k h1 h2.1 h3 h4, trivial, h.2.2.1, h.2.2.2⟩
theorem zO3_at {S : Nat → Nat} {z : Nat → Int32} (h : zO3 S z) {k : Nat} (hk : k < 88 ∧ k ≠ 11) (h4 : k ≠ 4) (h8 : k ≠ 8) (hh : k < 16 ∨ 64 ≤ k) : z k = nI (S k) := h.1 k hk h4 h8 hh
theorem zC_n {v : Nat} (h : v < 16) : zC v = nI v := by unfold zC; rw [if_pos h]
def RF (S : Nat → Nat) (M p : Nat) (m : rn_Mem) : Prop := m.1 115 21 = nI (fb_ct (unS S) p) ∧ (∀ r, r < p → vlS S r = true → S (16 + r) < 16 → m.1 127 r = nI (S (16 + r))) ∧ (∀ r, r < p → unS S r = true → m.1 125 (fb_ct (unS S) r) = nI r) ∧ (∀ t, t < fb_ct (unS S) p → m.1 121 t = 0) ∧ M < 65536 ∧ ∀ x, x < 16 → (M.testBit x = true ↔ (S 3).testBit x = true ∧ ∀ r, r < p → vlS S r = true → S (16 + r) ≠ x)
def Kf (m m2 : rn_Mem) : Prop := m2.2 = m.2 ∧ ∀ p i, ¬ (p = 127 ∨ p = 125 ∨ p = 121 ∨ (p = 115 ∧ i = 21)) → m2.1 p i = m.1 p i
theorem RF_gap {S : Nat → Nat} {M c : Nat} {m : rn_Mem} (hs : S (12 + c) ≤ 12) (h : RF S M (12 * c + S (12 + c)) m) : RF S M (12 * (c + 1)) m := by
  have hno : ∀ r, ¬ r < 12 * c + S (12 + c) → r < 12 * (c + 1) → vlS S r = false := by
    intro r h1 h2
    unfold vlS
    rw [show r / 12 = c by omega]
    exact decide_eq_false (by omega)
  have hct : fb_ct (unS S) (12 * (c + 1)) = fb_ct (unS S) (12 * c + S (12 + c)) := by
    have : fb_ct (unS S) (12 * c + S (12 + c) + (12 - S (12 + c))) = fb_ct (unS S) (12 * c + S (12 + c)) := by
      have h0 : fb_ct (fun k => unS S (12 * c + S (12 + c) + k)) (12 - S (12 + c)) = 0 := fb_ct_zero.mpr fun k hk => by
        unfold unS
        rw [hno (12 * c + S (12 + c) + k) (by omega) (by omega)]
        rfl
      rw [fb_ct_split, h0, Nat.add_zero]
    rw [show 12 * c + S (12 + c) + (12 - S (12 + c)) = 12 * (c + 1) by omega] at this
    exact this
  obtain ⟨a1, a2, a3, a4, a5, a6⟩ := h
  have cut : ∀ r, r < 12 * (c + 1) → vlS S r = true → r < 12 * c + S (12 + c) := by
    intro r h1 h2
    by_cases z : r < 12 * c + S (12 + c)
    · exact z
    · rw [hno r z h1] at h2; exact absurd h2 (by decide)
  have uv : ∀ r, unS S r = true → vlS S r = true := fun r hr => by
    unfold unS at hr
    rw [Bool.and_eq_true] at hr
    exact hr.1
  refine ⟨by rw [hct]; exact a1, fun r h1 h2 h3 => a2 r (cut r h1 h2) h2 h3, fun r h1 h2 => a3 r (cut r h1 (uv r h2)) h2, by rw [hct]; exact a4, a5, fun x hx => ?_⟩
  rw [a6 x hx]
  exact ⟨fun h => ⟨h.1, fun r h1 h2 => h.2 r (cut r h1 h2) h2⟩, fun h => ⟨h.1, fun r h1 h2 => h.2 r (by omega) h2⟩⟩
theorem fp_l85 {S : Nat → Nat} {c : Nat} (hc : c < S 1) (hn : S 1 ≤ 4) (hs : S (12 + c) ≤ 12) (hv : ∀ i, i < S (12 + c) → S (16 + 12 * c + i) ≤ 16) (h48 : fb_ct (unS S) 48 ≤ 3) : ∀ (r i nf M : Nat) (m : rn_Mem), i + r = S (12 + c) → r < nf → zOT S (m.1 116) → RF S M (12 * c + i) m → ∃ M2 m2, mo_findPlays_l85 (nI c) nf (nI M) (nI i) m = some (nI M2, m2) ∧ RF S M2 (12 * c + S (12 + c)) m2 ∧ Kf m m2 := by
  intro r
  induction r with
  | zero =>
    intro i nf M m e hnf hz hR
    obtain ⟨nf, rfl⟩ : ∃ e, nf = e + 1 := ⟨nf - 1, by omega⟩
    obtain rfl : i = S (12 + c) := by omega
    refine ⟨M, m, ?_, hR, rfl, fun _ _ _ => rfl⟩
    have z1 : m.1 116 (12 + c) = nI (S (12 + c)) := hz.1 (12 + c) (by omega) (by omega) (by omega) (by omega)
    rw [mo_findPlays_l85, k12, nI_add, if_pos ((in_n (by omega)).mpr (by omega)), nI_n (by omega), z1, if_neg (by rw [nI_ltI (by omega) (by omega)]; omega)]
  | succ r ih =>
    intro i nf M m e hnf hz hR
    obtain ⟨nf, rfl⟩ : ∃ e, nf = e + 1 := ⟨nf - 1, by omega⟩
    have z1 : m.1 116 (12 + c) = nI (S (12 + c)) := hz.1 (12 + c) (by omega) (by omega) (by omega) (by omega)
    have z2 : m.1 116 (16 + 12 * c + i) = zC (S (16 + 12 * c + i)) := hz.2.2.2 (16 + 12 * c + i) (by omega) (by omega)
    obtain ⟨a1, a2, a3, a4, a5, a6⟩ := hR
    have hvl : vlS S (12 * c + i) = true := by rw [vl_ci (by omega)]; exact decide_eq_true ⟨hc, by omega⟩
    have hsu := fb_ct_succ (unS S) (12 * c + i)
    have eS : S (16 + (12 * c + i)) = S (16 + 12 * c + i) := by rw [Nat.add_assoc]
    by_cases y : 16 ≤ S (16 + 12 * c + i)
    · have hu : unS S (12 * c + i) = true := (un_ci (by omega)).mpr ⟨⟨hc, by omega⟩, y⟩
      rw [if_pos hu] at hsu
      have h3 : fb_ct (unS S) (12 * c + i) < 3 := by
        have := fb_ct_mono (unS S) (show 12 * c + i + 1 ≤ 48 by omega)
        omega
      generalize hmr : rm_i (rm_i (rm_i (rm_i m 127 (12 * c + i) (zC (S (16 + 12 * c + i)))) 125 (fb_ct (unS S) (12 * c + i)) (nI (12 * c + i))) 121 (fb_ct (unS S) (12 * c + i)) 0) 115 21 (nI (fb_ct (unS S) (12 * c + i) + 1)) = mr
      have kf : Kf m mr := ⟨by rw [← hmr]; rfl, fun p k hp => by rw [← hmr, mi_get, if_neg (by omega), mi_get, if_neg (by omega), mi_get, if_neg (by omega), mi_get, if_neg (by omega)]⟩
      have hR2 : RF S M (12 * c + (i + 1)) mr := by
        refine ⟨by rw [← hmr, mi_get, if_pos ⟨rfl, rfl⟩, ← Nat.add_assoc, hsu], fun t h1 h2 h3' => ?_, fun t h1 h2 => ?_, fun t ht => ?_, a5, fun x hx => ?_⟩
        · have hne : t ≠ 12 * c + i := fun q => by rw [q, eS] at h3'; omega
          rw [← hmr, mi_get, if_neg (by omega), mi_get, if_neg (by omega), mi_get, if_neg (by omega), mi_get, if_neg (fun q => hne q.2)]
          exact a2 t (by omega) h2 h3'
        · by_cases q : t = 12 * c + i
          · rw [q, ← hmr, mi_get, if_neg (by omega), mi_get, if_neg (by omega), mi_get, if_pos ⟨rfl, rfl⟩]
          · have hne : fb_ct (unS S) t ≠ fb_ct (unS S) (12 * c + i) := fun u => q (fb_ct_kth_one h2 hu u)
            rw [← hmr, mi_get, if_neg (by omega), mi_get, if_neg (by omega), mi_get, if_neg (fun u => hne u.2), mi_get, if_neg (by omega)]
            exact a3 t (by omega) h2
        · rw [← Nat.add_assoc, hsu] at ht
          rw [← hmr, mi_get, if_neg (by omega), mi_get]
          by_cases q : t = fb_ct (unS S) (12 * c + i)
          · rw [if_pos ⟨rfl, q⟩]
          · rw [if_neg (fun u => q u.2), mi_get, if_neg (by omega), mi_get, if_neg (by omega)]
            exact a4 t (by omega)
        · rw [a6 x hx]
          constructor
          · rintro ⟨h1, h2⟩
            refine ⟨h1, fun t h3' h4 => ?_⟩
            by_cases q : t = 12 * c + i
            · rw [q, eS]; omega
            · exact h2 t (by omega) h4
          · rintro ⟨h1, h2⟩
            exact ⟨h1, fun t h3' h4 => h2 t (by omega) h4⟩
      obtain ⟨M2, m2, p1, p2, p3, p4⟩ := ih (i + 1) nf M mr (by omega) (by omega) (by rw [show mr.1 116 = m.1 116 from funext fun k => kf.2 116 k (by omega)]; exact hz) hR2
      refine ⟨M2, m2, ?_, p2, by rw [p3, kf.1], fun p k hp => by rw [p4 p k hp, kf.2 p k hp]⟩
      have r21 : ∀ x, (rm_i m 127 (12 * c + i) x).1 115 21 = nI (fb_ct (unS S) (12 * c + i)) := fun x => by rw [mi_get, if_neg (by omega)]; exact a1
      have r21b : ∀ x w, (rm_i (rm_i m 127 (12 * c + i) x) 125 (fb_ct (unS S) (12 * c + i)) w).1 115 21 = nI (fb_ct (unS S) (12 * c + i)) := fun x w => by rw [mi_get, if_neg (by omega)]; exact r21 x
      have r21c : ∀ x w, (rm_i (rm_i (rm_i m 127 (12 * c + i) x) 125 (fb_ct (unS S) (12 * c + i)) w) 121 (fb_ct (unS S) (12 * c + i)) 0).1 115 21 = nI (fb_ct (unS S) (12 * c + i)) := fun x w => by rw [mi_get, if_neg (by omega)]; exact r21b x w
      have i3 : rn_in (nI (fb_ct (unS S) (12 * c + i))) 3 = true := (in_n (by omega)).mpr h3
      rw [mo_findPlays_l85, k12, k16, pk_mul, nI_add, nI_add, nI_add, nI_add, if_pos ((in_n (by omega)).mpr (by omega)), nI_n (by omega), z1, if_pos (by rw [nI_ltI (by omega) (by omega)]; omega), if_pos ((in_n (by omega)).mpr (by omega)), nI_n (by omega), z2, Option.bind_some, if_pos ((in_n (by omega)).mpr (by omega)), nI_n (by omega), Option.bind_some, if_pos (zC_lt.mpr y)]
      simp only [Option.bind_some, r21, i3, if_true, nI_n (show fb_ct (unS S) (12 * c + i) < 2 ^ 31 by omega), r21b, r21c, nI_1, hmr]
      exact p1
    · have hu : ¬ unS S (12 * c + i) = true := fun t => y ((un_ci (by omega)).mp t).2
      rw [if_neg hu] at hsu
      generalize hmr : rm_i m 127 (12 * c + i) (nI (S (16 + 12 * c + i))) = mr
      have kf : Kf m mr := ⟨by rw [← hmr]; rfl, fun p k hp => by rw [← hmr, mi_get, if_neg (by omega)]⟩
      have hR2 : RF S (bd M (2 ^ S (16 + 12 * c + i))) (12 * c + (i + 1)) mr := by
        refine ⟨by rw [← hmr, mi_get, if_neg (by omega), ← Nat.add_assoc, hsu, Nat.add_zero]; exact a1, fun t h1 h2 h3' => ?_, fun t h1 h2 => ?_, fun t ht => ?_, ?_, fun x hx => ?_⟩
        · rw [← hmr, mi_get]
          by_cases q : t = 12 * c + i
          · rw [if_pos ⟨rfl, q⟩, q, eS]
          · rw [if_neg (fun u => q u.2)]
            exact a2 t (by omega) h2 h3'
        · have hne : t ≠ 12 * c + i := fun q => by rw [q] at h2; exact hu h2
          rw [← hmr, mi_get, if_neg (by omega)]
          exact a3 t (by omega) h2
        · rw [← Nat.add_assoc, hsu, Nat.add_zero] at ht
          rw [← hmr, mi_get, if_neg (by omega)]
          exact a4 t ht
        · have : bd M (2 ^ S (16 + 12 * c + i)) ≤ M := or_le fun x hx => by
            rw [bd_bit, Bool.and_eq_true] at hx
            exact hx.1
          omega
        · rw [bd_bit, Bool.and_eq_true, a6 x hx, Bool.not_eq_true', Nat.testBit_two_pow, decide_eq_false_iff_not]
          constructor
          · rintro ⟨⟨h1, h2⟩, h3'⟩
            refine ⟨h1, fun t h4 h5 => ?_⟩
            by_cases q : t = 12 * c + i
            · rw [q, eS]; exact h3'
            · exact h2 t (by omega) h5
          · rintro ⟨h1, h2⟩
            exact ⟨⟨h1, fun t h4 h5 => h2 t (by omega) h5⟩, by rw [← eS]; exact h2 (12 * c + i) (by omega) hvl⟩
      obtain ⟨M2, m2, p1, p2, p3, p4⟩ := ih (i + 1) nf (bd M (2 ^ S (16 + 12 * c + i))) mr (by omega) (by omega) (by rw [show mr.1 116 = m.1 116 from funext fun k => kf.2 116 k (by omega)]; exact hz) hR2
      refine ⟨M2, m2, ?_, p2, by rw [p3, kf.1], fun p k hp => by rw [p4 p k hp, kf.2 p k hp]⟩
      rw [mo_findPlays_l85, k12, k16, pk_mul, nI_add, nI_add, nI_add, nI_add, if_pos ((in_n (by omega)).mpr (by omega)), nI_n (by omega), z1, if_pos (by rw [nI_ltI (by omega) (by omega)]; omega), if_pos ((in_n (by omega)).mpr (by omega)), nI_n (by omega), z2, Option.bind_some, if_pos ((in_n (by omega)).mpr (by omega)), nI_n (by omega), Option.bind_some, if_neg (fun t => y (zC_lt.mp t)), zC_n (by omega), shl_1 (by omega), bd_n, Option.bind_some]
      simp only [Option.bind_some, nI_1, hmr]
      exact p1
