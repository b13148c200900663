/-! THE REFERENCE'S SEARCH: laying what lacks -/
theorem Kf.tr {m m1 m2 : rn_Mem} (h : Kf m m1) (h2 : Kf m1 m2) : Kf m m2 := ⟨by rw [h2.1, h.1], fun p i hp => by rw [h2.2 p i hp, h.2 p i hp]⟩
theorem fp_l73 {S : Nat → Nat} (hn : S 1 ≤ 4) (hs : ∀ c, c < S 1 → S (12 + c) ≤ 12) (hv : ∀ c i, c < S 1 → i < S (12 + c) → S (16 + 12 * c + i) ≤ 16) (h48 : fb_ct (unS S) 48 ≤ 3) : ∀ (r c nf M : Nat) (m : rn_Mem), c + r = S 1 → r + 20 < nf → zOT S (m.1 116) → RF S M (12 * c) m → ∃ M2 m2, mo_findPlays_l73 nf (nI M) (nI c) m = some (nI M2, m2) ∧ RF S M2 (12 * S 1) m2 ∧ Kf m m2 := by
  intro r
  induction r with
  | zero =>
    intro c nf M m e hnf hz hR
    obtain ⟨nf, rfl⟩ : ∃ e, nf = e + 1 := ⟨nf - 1, by omega⟩
    obtain rfl : c = S 1 := by omega
    refine ⟨M, m, ?_, hR, rfl, fun _ _ _ => rfl⟩
    have z1 : m.1 116 1 = nI (S 1) := hz.1 1 (by omega) (by omega) (by omega) (by omega)
    rw [mo_findPlays_l73, z1, if_neg (by rw [nI_ltI (by omega) (by omega)]; omega)]
  | succ r ih =>
    intro c nf M m e hnf hz hR
    obtain ⟨nf, rfl⟩ : ∃ e, nf = e + 1 := ⟨nf - 1, by omega⟩
    have z1 : m.1 116 1 = nI (S 1) := hz.1 1 (by omega) (by omega) (by omega) (by omega)
    have hsc := hs c (by omega)
    obtain ⟨M1, m1, q1, q2, q3⟩ := fp_l85 (show c < S 1 by omega) hn hsc (fun i hi => hv c i (by omega) hi) h48 (S (12 + c)) 0 nf M m (by omega) (by omega) hz hR
    obtain ⟨M2, m2, p1, p2, p3⟩ := ih (c + 1) nf M1 m1 (by omega) (by omega) (by rw [show m1.1 116 = m.1 116 from funext fun k => q3.2 116 k (by omega)]; exact hz) (RF_gap hsc q2)
    refine ⟨M2, m2, ?_, p2, q3.tr p3⟩
    rw [mo_findPlays_l73, z1, if_pos (by rw [nI_ltI (by omega) (by omega)]; omega), show mo_findPlays_l85 (nI c) nf (nI M) 0 m = some (nI M1, m1) from q1]
    simp only [Option.bind_some, nI_1]
    exact p1
theorem fp_l195 {D : Nat} {q : Nat → Bool} (hD : D < 2 ^ 31) (hq : ∀ x, x < 16 → D.testBit x = q x) (h3 : fb_ct q 16 ≤ 3) : ∀ (r x nf : Nat) (m : rn_Mem), x + r = 16 → r < nf → (∀ y, y < x → q y = true → m.1 126 (fb_ct q y) = nI y) → ∃ m2, mo_findPlays_l195 (nI D) nf (nI (fb_ct q x)) (nI x) m = some m2 ∧ (∀ y, y < 16 → q y = true → m2.1 126 (fb_ct q y) = nI y) ∧ m2.2 = m.2 ∧ ∀ p, p ≠ 126 → m2.1 p = m.1 p := by
  intro r
  induction r with
  | zero =>
    intro x nf m e hnf hI
    obtain ⟨nf, rfl⟩ : ∃ e, nf = e + 1 := ⟨nf - 1, by omega⟩
    obtain rfl : x = 16 := by omega
    refine ⟨m, ?_, hI, rfl, fun _ _ => rfl⟩
    rw [mo_findPlays_l195, if_neg (by rw [k16, nI_ltI (by omega) (by omega)]; omega)]
  | succ r ih =>
    intro x nf m e hnf hI
    obtain ⟨nf, rfl⟩ : ∃ e, nf = e + 1 := ⟨nf - 1, by omega⟩
    have hs := fb_ct_succ q x
    by_cases y : q x = true
    · rw [if_pos y] at hs
      have z : fb_ct q x < 3 := by
        have := fb_ct_mono q (show x + 1 ≤ 16 by omega)
        omega
      have hI2 : ∀ t, t < x + 1 → q t = true → (rm_i m 126 (fb_ct q x) (nI x)).1 126 (fb_ct q t) = nI t := by
        intro t h1 h2
        rw [mi_get]
        by_cases s : t = x
        · rw [s, if_pos ⟨rfl, rfl⟩]
        · have hne : fb_ct q t ≠ fb_ct q x := fun u => s (fb_ct_kth_one h2 y u)
          rw [if_neg (fun u => hne u.2)]
          exact hI t (by omega) h2
      obtain ⟨m2, p1, p2, p3, p4⟩ := ih (x + 1) nf (rm_i m 126 (fb_ct q x) (nI x)) (by omega) (by omega) hI2
      refine ⟨m2, ?_, p2, p3, fun p hp => by rw [p4 p hp]; funext i; rw [mi_get, if_neg (fun t => hp t.1)]⟩
      rw [mo_findPlays_l195, if_pos (by rw [k16, nI_ltI (by omega) (by omega)]; omega), if_pos ((bit_1 hD (by omega)).mpr (by rw [hq x (by omega)]; exact y)), if_pos ((in_n (by omega)).mpr z), nI_n (by omega)]
      simp only [Option.bind_some, nI_1]
      rw [← hs]
      exact p1
    · rw [if_neg y] at hs
      obtain ⟨m2, p1, p2, p3, p4⟩ := ih (x + 1) nf m (by omega) (by omega) (fun t h1 h2 => by
        by_cases s : t = x
        · rw [s] at h2; exact absurd h2 y
        · exact hI t (by omega) h2)
      refine ⟨m2, ?_, p2, p3, p4⟩
      rw [mo_findPlays_l195, if_pos (by rw [k16, nI_ltI (by omega) (by omega)]; omega), if_neg (fun t => y (by rw [← hq x (by omega)]; exact (bit_1 hD (by omega)).mp t))]
      simp only [Option.bind_some, nI_1]
      rw [hs, Nat.add_zero] at p1
      exact p1
/-- what stays through the orders of what lacks -/
def RL (S : Nat → Nat) (m : rn_Mem) : Prop := zOT S (m.1 116) ∧ S 9 = 1 ∧ m.1 115 21 = nI (uc S) ∧ (∀ p, vlS S p = true → p < 48 → S (16 + p) < 16 → m.1 127 p = nI (S (16 + p))) ∧ (∀ s, s < uc S → m.1 125 s = nI (nth (unS S) s 48)) ∧ ∀ s, s < uc S → m.1 126 s = nI (nth (msS S) s 16)
theorem RL_k {S : Nat → Nat} {m m2 : rn_Mem} (h : RL S m) (h1 : ∀ p, p = 116 ∨ p = 125 ∨ p = 126 ∨ p = 127 → m2.1 p = m.1 p) (h2 : m2.1 115 21 = m.1 115 21) : RL S m2 := by
  obtain ⟨a1, a2, a3, a4, a5, a6⟩ := h
  refine ⟨by rw [h1 116 (by omega)]; exact a1, a2, by rw [h2]; exact a3, ?_, ?_, ?_⟩
  · rw [h1 127 (by omega)]; exact a4
  · rw [h1 125 (by omega)]; exact a5
  · rw [h1 126 (by omega)]; exact a6
theorem fp_l249 {S : Nat → Nat} {i : Nat} (wg : WG S) (wt : WT S) (hi : i < fac (uc S)) : ∀ (r s nf : Nat) (m : rn_Mem), s + r = uc S → r + 40 < nf → RL S m → (∀ t, t < s → m.1 127 (nth (unS S) t 48) = nI (nth (msS S) (od (uc S) i t) 16)) → ∃ m2, mo_findPlays_l249 (nI i) nf (nI s) m = some m2 ∧ RL S m2 ∧ (∀ t, t < uc S → m2.1 127 (nth (unS S) t 48) = nI (nth (msS S) (od (uc S) i t) 16)) ∧ m2.2 = m.2 ∧ ∀ p, p ≠ 127 → m2.1 p = m.1 p := by
  intro r
  induction r with
  | zero =>
    intro s nf m e hnf hL hI
    obtain ⟨nf, rfl⟩ : ∃ e, nf = e + 1 := ⟨nf - 1, by omega⟩
    obtain rfl : s = uc S := by omega
    have hu3 : uc S ≤ 3 := (wt.2 hL.2.1).2.2.2.2
    refine ⟨m, ?_, hL, hI, rfl, fun _ _ => rfl⟩
    rw [mo_findPlays_l249, hL.2.2.1, if_neg (by rw [nI_ltI (by omega) (by omega)]; omega)]
  | succ r ih =>
    intro s nf m e hnf hL hI
    obtain ⟨nf, rfl⟩ : ∃ e, nf = e + 1 := ⟨nf - 1, by omega⟩
    obtain ⟨a1, a2, a3, a4, a5, a6⟩ := hL
    have hu3 : uc S ≤ 3 := (wt.2 a2).2.2.2.2
    have hf6 := fac_6 (uc S) (by omega)
    have o3 := od_lt3 (uc S) (by omega) i (by omega) hi s (by omega)
    obtain ⟨n1, n2, n3⟩ := nth_sp (p := unS S) (s := s) (N := 48) (by rw [un_48 wg wt a2]; omega)
    have hne : ∀ t, t < s → nth (unS S) t 48 ≠ nth (unS S) s 48 := by
      intro t ht y
      obtain ⟨_, _, t3⟩ := nth_sp (p := unS S) (s := t) (N := 48) (by rw [un_48 wg wt a2]; omega)
      rw [y, n3] at t3
      omega
    have hun : ∀ p, S (16 + p) < 16 → p ≠ nth (unS S) s 48 := by
      intro p hp y
      rw [← y] at n2
      unfold unS at n2
      rw [Bool.and_eq_true, decide_eq_true_iff] at n2
      omega
    generalize hmr : rm_i m 127 (nth (unS S) s 48) (nI (nth (msS S) (od (uc S) i s) 16)) = mr
    have f1 : ∀ p, p ≠ 127 → mr.1 p = m.1 p := fun p hp => by rw [← hmr]; funext k; rw [mi_get, if_neg (fun t => hp t.1)]
    have f2 : ∀ k, k ≠ nth (unS S) s 48 → mr.1 127 k = m.1 127 k := fun k hk => by rw [← hmr, mi_get, if_neg (fun t => hk t.2)]
    have f3 : mr.1 127 (nth (unS S) s 48) = nI (nth (msS S) (od (uc S) i s) 16) := by rw [← hmr, mi_get, if_pos ⟨rfl, rfl⟩]
    have f4 : mr.2 = m.2 := by rw [← hmr]; rfl
    obtain ⟨m2, p1, p2, p3, p4, p5⟩ := ih (s + 1) nf mr (by omega) (by omega) ⟨by rw [f1 116 (by omega)]; exact a1, a2, by rw [f1 115 (by omega)]; exact a3, fun p h1 h2 h3 => by rw [f2 p (hun p h3)]; exact a4 p h1 h2 h3, by rw [f1 125 (by omega)]; exact a5, by rw [f1 126 (by omega)]; exact a6⟩ (fun t ht => by
      by_cases y : t = s
      · rw [y]; exact f3
      · rw [f2 _ (hne t (by omega))]; exact hI t (by omega))
    refine ⟨m2, ?_, p2, p3, by rw [p4, f4], fun p hp => by rw [p5 p hp, f1 p hp]⟩
    rw [mo_findPlays_l249, a3, if_pos (by rw [nI_ltI (by omega) (by omega)]; omega), if_pos ((in_n (by omega)).mpr (by omega)), ordered_sp (by omega) (by omega) (by omega) hi (by omega), Option.bind_some]
    simp only []
    rw [if_pos ((in_n (by omega)).mpr (by omega)), nI_n (show s < 2 ^ 31 by omega), a5 s (by omega), if_pos ((in_n (by omega)).mpr n1), nI_n (show nth (unS S) s 48 < 2 ^ 31 by omega), nI_n (show od (uc S) i s < 2 ^ 31 by omega), a6 _ o3, hmr]
    simp only [Option.bind_some, nI_1]
    exact p1
/-- the cards as the reference lays them -/
theorem fp_T {S : Nat → Nat} {r : Nat} {m : rn_Mem} (wg : WG S) (wt : WT S) (hL : RL S m) (h : ∀ t, t < uc S → m.1 127 (nth (unS S) t 48) = nI (nth (msS S) (od (uc S) r t) 16)) : ∀ c i j, c < S 1 → i < mmS S c → j < S 1 → m.1 127 (12 * c + S 1 * i + j) = nI (XF S r c i j) := by
  obtain ⟨a1, a2, a3, a4, a5, a6⟩ := hL
  intro c i j hc hi hj
  obtain ⟨k1, k2, _⟩ := XF_k wg wt a2 hc hi hj
  unfold XF
  by_cases z : S (16 + (12 * c + S 1 * i + j)) < 16
  · rw [if_pos z]; exact a4 _ k1 k2 z
  · rw [if_neg z]
    have hu : unS S (12 * c + S 1 * i + j) = true := by unfold unS; rw [k1, decide_eq_true (by omega)]; rfl
    have h1 : fb_ct (unS S) (12 * c + S 1 * i + j) < uc S := by
      rw [← un_48 wg wt a2]
      have h2 : fb_ct (unS S) (12 * c + S 1 * i + j + 1) ≤ fb_ct (unS S) 48 := fb_ct_mono _ k2
      rw [fb_ct_succ, if_pos hu] at h2
      omega
    have := h _ h1
    rw [nth_of hu k2] at this
    exact this
