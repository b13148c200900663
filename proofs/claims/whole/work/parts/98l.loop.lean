/-! SEARCH: the run over all orders -/
theorem Kx.rf {m : rn_Mem} : Kx m m := ⟨fun _ _ _ => rfl, fun _ _ _ => rfl⟩
theorem rp_rp : ∀ U, U < 4 → ∀ i, i < 6 → i < fac U → rp U (rp U i) = i := by decide +kernel
theorem run_gen {N B : Nat} {JM : Nat → rn_Mem → Prop} (hN : N ≤ 6) (h : ∀ i nf m, i < N → B < nf → JM i m → ((m.1 51 10 = 1 ∧ m.1 51 11 = 0) → JM N m) ∧ (¬ (m.1 51 10 = 1 ∧ m.1 51 11 = 0) → ∃ m26 m29 x m34 m43, se_run_l59 (nI N) (nI i) (m.2 51 12) nf 0 m = some m26 ∧ se_gather nf m26 = some m29 ∧ se_lastLeader nf m29 = some (x, m29) ∧ se_lay nf 16 (m29.1 52 2 - 1) x 0 0 0 0 m29 = some m34 ∧ (if m34.1 51 10 = 0 then if lg_cmp (m34.2 51 12) (m.2 51 12) = 0 then some m34 else (se_noteUnder nf m34).bind fun m38 => some m38 else some m34) = some m43 ∧ JM (i + 1) m43)) : ∀ (r i nf : Nat) (m : rn_Mem), i + r = N → B + r + 1 < nf → JM i m → ∃ m2, se_run_l39 (nI N) nf (nI i) m = some m2 ∧ JM N m2 := by
  intro r
  induction r with
  | zero =>
    intro i nf m e hnf hJ
    obtain ⟨nf, rfl⟩ : ∃ e, nf = e + 1 := ⟨nf - 1, by omega⟩
    obtain rfl : i = N := by omega
    refine ⟨m, ?_, hJ⟩
    rw [se_run_l39, if_neg (by rw [nI_ltI (by omega) (by omega)]; omega)]
  | succ r ih =>
    intro i nf m e hnf hJ
    obtain ⟨nf, rfl⟩ : ∃ e, nf = e + 1 := ⟨nf - 1, by omega⟩
    obtain ⟨h1, h2⟩ := h i nf m (by omega) (by omega) hJ
    by_cases z : m.1 51 10 = 1 ∧ m.1 51 11 = 0
    · refine ⟨m, ?_, h1 z⟩
      have hs : se_settled nf m = some ((1 : Int32), m) := by unfold se_settled; rw [if_pos z.1, if_pos z.2]
      rw [se_run_l39, if_pos (by rw [nI_ltI (by omega) (by omega)]; omega), hs, Option.bind_some]
      simp only []
      rw [if_neg (by decide)]
    · obtain ⟨m26, m29, x, m34, m43, e1, e2, e3, e4, e5, e6⟩ := h2 z
      obtain ⟨m2, p1, p2⟩ := ih (i + 1) nf m43 (by omega) (by omega) e6
      refine ⟨m2, ?_, p2⟩
      have hs : se_settled nf m = some ((0 : Int32), m) := by
        unfold se_settled
        by_cases y : m.1 51 10 = 1
        · rw [if_pos y, if_neg (fun t => z ⟨y, t⟩)]
        · rw [if_neg y]
      rw [se_run_l39, if_pos (by rw [nI_ltI (by omega) (by omega)]; omega), hs, Option.bind_some]
      simp only []
      rw [if_pos trivial, Option.bind_some, e1, Option.bind_some, e2, Option.bind_some, e3, Option.bind_some]
      simp only []
      rw [e4, Option.bind_some]
      rw [e5, Option.bind_some, Option.bind_some, nI_1]
      exact p1
def Kz (e : Nat) (m m2 : rn_Mem) : Prop := (∀ p i, ¬ Prun p i → p ≠ 65 → p ≠ 66 → p ≠ e → m2.1 p i = m.1 p i) ∧ ∀ p, p ≠ 51 → p < 70 ∨ 101 < p → m2.2 p = m.2 p
theorem Kz.x {e : Nat} {m m1 m2 : rn_Mem} (h : Kz e m m1) (h2 : Kx m1 m2) : Kz e m m2 := ⟨fun p i h1 h3 h4 h5 => by rw [h2.1 p i h1]; exact h.1 p i h1 h3 h4 h5, fun p h1 h3 => by rw [h2.2 p h1 h3]; exact h.2 p h1 h3⟩
theorem run_sp {S : Nat → Nat} {JM : Nat → rn_Mem → Prop} {nf : Nat} {m : rn_Mem} (wg : WG S) (wt : WT S) (hnf : 2000 < nf) (hH : SH S m) (h0 : ∀ m1, LI S m1 → m1.2 = m.2 → (∀ p, p ≠ 65 → p ≠ 66 → m1.1 p = m.1 p) → JM 0 m1) (h : ∀ i nf m, i < fac (uc S) → 1000 < nf → JM i m → ((m.1 51 10 = 1 ∧ m.1 51 11 = 0) → JM (fac (uc S)) m) ∧ (¬ (m.1 51 10 = 1 ∧ m.1 51 11 = 0) → ∃ m26 m29 x m34 m43, se_run_l59 (nI (fac (uc S))) (nI i) (m.2 51 12) nf 0 m = some m26 ∧ se_gather nf m26 = some m29 ∧ se_lastLeader nf m29 = some (x, m29) ∧ se_lay nf 16 (m29.1 52 2 - 1) x 0 0 0 0 m29 = some m34 ∧ (if m34.1 51 10 = 0 then if lg_cmp (m34.2 51 12) (m.2 51 12) = 0 then some m34 else (se_noteUnder nf m34).bind fun m38 => some m38 else some m34) = some m43 ∧ JM (i + 1) m43)) : ∃ m2, se_run nf m = some m2 ∧ JM (fac (uc S)) m2 := by
  obtain ⟨m1, p1, p2, p3, p4, p5⟩ := listUnseen_sp (show 60 < nf by omega) wg wt hH
  obtain ⟨hG, hS0, h9, hC, hT⟩ := hH
  obtain ⟨t1, t2, t3, _⟩ := hT.2 h9
  have hu3 : uc S ≤ 3 := (wt.2 h9).2.2.2.2
  have hf6 := fac_6 (uc S) (by omega)
  have e53 : m1.1 53 6 = nI (uc S) := by rw [p5 53 (by omega) (by omega)]; exact t3
  have hL : LI S m1 := by
    refine ⟨GMm_k ⟨hG, hS0, hC⟩ fun p h1 h2 _ => p5 p (by omega) (by omega), h9, e53, fun c hc => ?_, fun p h1 h2 h3 => ?_, p3, p2⟩
    · rw [p5 55 (by omega) (by omega)]; exact (t1 c hc).2
    · rw [p5 56 (by omega) (by omega)]
      unfold vlS at h1
      rw [decide_eq_true_iff] at h1
      have := t2 (p / 12) (p % 12) h1.1 h1.2
      rw [show 12 * (p / 12) + p % 12 = p by omega, show 16 + 12 * (p / 12) + p % 12 = 16 + p by omega] at this
      rw [this]
      unfold cC
      rw [if_pos h3]
  obtain ⟨m2, q1, q2⟩ := run_gen hf6 h (fac (uc S)) 0 nf m1 (by omega) (by omega) (h0 m1 hL p4 p5)
  refine ⟨m2, ?_, q2⟩
  unfold se_run
  rw [p1, Option.bind_some]
  simp only []
  rw [e53]
  have hx : (if nI (uc S) < 2 then some (1 : Int32) else if nI (uc S) = 2 then some (2 : Int32) else some (6 : Int32)) = some (nI (fac (uc S))) := by
    have : uc S = 0 ∨ uc S = 1 ∨ uc S = 2 ∨ uc S = 3 := by omega
    rcases this with y | y | y | y <;> rw [y] <;> decide
  rw [hx, Option.bind_some, show se_run_l39 (nI (fac (uc S))) nf 0 m1 = some m2 from q1]
  rfl
/-- the lines, over all orders of what lacks -/
def LA (S : Nat → Nat) (N : Nat) (C : (Nat → Nat → Nat → Nat) → (Nat → Nat) → (Nat → Nat) → Prop) : Prop := ∃ k w q, k < N ∧ LN S (XF S (rp (uc S) k)) w q ∧ C (XF S (rp (uc S) k)) w q
theorem LA_s {S : Nat → Nat} {N : Nat} {C : (Nat → Nat → Nat → Nat) → (Nat → Nat) → (Nat → Nat) → Prop} : LA S (N + 1) C ↔ LA S N C ∨ ∃ w q, LN S (XF S (rp (uc S) N)) w q ∧ C (XF S (rp (uc S) N)) w q := by
  constructor
  · rintro ⟨k, w, q, h1, h2, h3⟩
    by_cases z : k = N
    · rw [z] at h2 h3; exact Or.inr ⟨w, q, h2, h3⟩
    · exact Or.inl ⟨k, w, q, by omega, h2, h3⟩
  · rintro (⟨k, w, q, h1, h2, h3⟩ | ⟨w, q, h2, h3⟩)
    · exact ⟨k, w, q, by omega, h2, h3⟩
    · exact ⟨N, w, q, by omega, h2, h3⟩
theorem LA_m {S : Nat → Nat} {N M : Nat} {C : (Nat → Nat → Nat → Nat) → (Nat → Nat) → (Nat → Nat) → Prop} (h : N ≤ M) (hl : LA S N C) : LA S M C := by
  obtain ⟨k, w, q, h1, h2, h3⟩ := hl
  exact ⟨k, w, q, by omega, h2, h3⟩
theorem LA_0 {S : Nat → Nat} {C : (Nat → Nat → Nat → Nat) → (Nat → Nat) → (Nat → Nat) → Prop} : ¬ LA S 0 C := fun ⟨k, _, _, h, _⟩ => Nat.not_lt_zero k h
theorem LA_e {S : Nat → Nat} {C : (Nat → Nat → Nat → Nat) → (Nat → Nat) → (Nat → Nat) → Prop} (hu : uc S < 4) : LA S (fac (uc S)) C ↔ ∃ r w q, r < fac (uc S) ∧ LN S (XF S r) w q ∧ C (XF S r) w q := by
  have hf6 := fac_6 (uc S) hu
  constructor
  · rintro ⟨k, w, q, h1, h2, h3⟩
    exact ⟨rp (uc S) k, w, q, rp_lt (uc S) hu k (by omega) h1, h2, h3⟩
  · rintro ⟨r, w, q, h1, h2, h3⟩
    have e := rp_rp (uc S) hu r (by omega) h1
    exact ⟨rp (uc S) r, w, q, rp_lt (uc S) hu r (by omega) h1, by rw [e]; exact h2, by rw [e]; exact h3⟩
/-- the least rank of clues to drop -/
theorem run_D {S : Nat → Nat} {nf v0 : Nat} {m : rn_Mem} (wg : WG S) (wt : WT S) (wc : WC S) (hnf : 2000 < nf) (hH : SH S m) (hI : InvD m v0) : ∃ m2 v, se_run nf m = some m2 ∧ Kz 65 m m2 ∧ InvD m2 v ∧ m2.1 69 = m.1 69 ∧ m2.2 51 = m.2 51 ∧ m2.1 51 15 = m.1 51 15 ∧ m2.1 51 16 = m.1 51 16 ∧ ∀ y, v ≤ y ↔ v0 ≤ y ∨ LA S (fac (uc S)) fun X w q => nbQ S X w q (S 2) = 0 ∧ rk (bkQ S X w q (S 2)) ≤ y := by
  have h9 := hH.2.2.1
  have hu3 : uc S ≤ 3 := (wt.2 h9).2.2.2.2
  have hf6 := fac_6 (uc S) (by omega)
  obtain ⟨m2, p1, hL, hk, v, ⟨i1, q1, q2, q3, q4⟩, hv⟩ := run_sp (nf := nf) (m := m) (JM := fun i m' => LI S m' ∧ Kz 65 m m' ∧ ∃ v, (InvD m' v ∧ QD (m.1 69) (m.2 51) (m.1 51 15) (m.1 51 16) m') ∧ ∀ y, v ≤ y ↔ v0 ≤ y ∨ LA S i fun X w q => nbQ S X w q (S 2) = 0 ∧ rk (bkQ S X w q (S 2)) ≤ y) wg wt hnf hH
    (fun m1 hL e2 e1 => ⟨hL, ⟨fun p i _ h3 h4 _ => by rw [e1 p h3 h4], fun p _ _ => by rw [e2]⟩, v0, ⟨⟨by rw [e1 51 (by omega) (by omega)]; exact hI.1, by rw [e1 51 (by omega) (by omega)]; exact hI.2.1, hI.2.2⟩, e1 69 (by omega) (by omega), by rw [e2], by rw [e1 51 (by omega) (by omega)], by rw [e1 51 (by omega) (by omega)]⟩, fun y => ⟨Or.inl, fun t => t.elim id fun t => absurd t LA_0⟩⟩)
    (fun i nf' m' hi hnf' hJ => by
      obtain ⟨hL, hk, v, hI', hv⟩ := hJ
      refine ⟨fun hz => ⟨hL, hk, v, hI', fun y => ?_⟩, fun hz => ?_⟩
      · have hv0 : v = 0 := by
          have h11 := hz.2
          rw [hI'.1.2.1] at h11
          have := hI'.1.2.2
          by_cases t : v = 0
          · exact t
          · exact absurd h11 (nI_ne0 (by omega) (by omega))
        constructor
        · intro h
          exact ((hv y).mp h).elim Or.inl fun t => Or.inr (LA_m (by omega) t)
        · intro _
          omega
      · obtain ⟨m26, m29, m34, Y, Z, cl, e1, e2, e3, e4, hG, hI2, hL2, _, hx⟩ := run_body (add := fun Y Z => addD S (F0S S) Y Z) (fun Y Z hY => AI_DQ wc hY (m.1 69) (m.2 51) (m.1 51 15) (m.1 51 16)) wg wt wc hnf' hi hL hI' (nI (fac (uc S))) (m'.2 51 12)
        refine ⟨m26, m29, _, m34, m34, e1, e2, e3, e4, ?_, hL2, hk.x hx, _, hI2, fun y => ?_⟩
        · rw [if_neg (by rw [hI2.1.1]; decide)]
        · have hr := rp_lt (uc S) (by omega) i (by omega) hi
          rw [FO_D wg wc (XF_HZ wg wt h9 hr) hG y, hv y, LA_s, or_assoc])
  exact ⟨m2, v, p1, hk, i1, q1, q2, q3, q4, hv⟩
/-- the fewest breaches -/
theorem run_B {S : Nat → Nat} {nf : Nat} {v0 : Nat → Nat} {m : rn_Mem} (wg : WG S) (wt : WT S) (wc : WC S) (hnf : 2000 < nf) (hH : SH S m) (hI : InvB S m v0) : ∃ m2 v, se_run nf m = some m2 ∧ Kz 65 m m2 ∧ InvB S m2 v ∧ m2.2 51 = m.2 51 ∧ m2.1 51 15 = m.1 51 15 ∧ m2.1 51 16 = m.1 51 16 ∧ ∀ i y, i ≤ S 1 → (v i ≤ y ↔ v0 i ≤ y ∨ LA S (fac (uc S)) fun X w q => bkQ S X w q (S 2) = 0 ∧ (i = 0 ∨ (byQ S X w q (S 2)).testBit (4 * (i - 1)) = false) ∧ nbQ S X w q (S 2) ≤ y) := by
  have h9 := hH.2.2.1
  have hu3 : uc S ≤ 3 := (wt.2 h9).2.2.2.2
  have hf6 := fac_6 (uc S) (by omega)
  obtain ⟨m2, p1, hL, hk, v, ⟨i1, q2, q3, q4⟩, hv⟩ := run_sp (nf := nf) (m := m) (JM := fun i m' => LI S m' ∧ Kz 65 m m' ∧ ∃ v, (InvB S m' v ∧ QB (m.2 51) (m.1 51 15) (m.1 51 16) m') ∧ ∀ j y, j ≤ S 1 → (v j ≤ y ↔ v0 j ≤ y ∨ LA S i fun X w q => bkQ S X w q (S 2) = 0 ∧ (j = 0 ∨ (byQ S X w q (S 2)).testBit (4 * (j - 1)) = false) ∧ nbQ S X w q (S 2) ≤ y)) wg wt hnf hH
    (fun m1 hL e2 e1 => ⟨hL, ⟨fun p i _ h3 h4 _ => by rw [e1 p h3 h4], fun p _ _ => by rw [e2]⟩, v0, ⟨⟨by rw [e1 51 (by omega) (by omega)]; exact hI.1, by rw [e1 69 (by omega) (by omega)]; exact hI.2⟩, by rw [e2], by rw [e1 51 (by omega) (by omega)], by rw [e1 51 (by omega) (by omega)]⟩, fun j y _ => ⟨Or.inl, fun t => t.elim id fun t => absurd t LA_0⟩⟩)
    (fun i nf' m' hi hnf' hJ => by
      obtain ⟨hL, hk, v, hI', hv⟩ := hJ
      refine ⟨fun hz => ?_, fun hz => ?_⟩
      · have h10 := hz.1
        rw [hI'.1.1] at h10
        exact absurd h10 (by decide)
      · obtain ⟨m26, m29, m34, Y, Z, cl, e1, e2, e3, e4, hG, hI2, hL2, _, hx⟩ := run_body (add := fun Y Z => addB S (F0S S) Y Z) (fun Y Z hY => AI_BQ (AI_B wg wc hY) (m.2 51) (m.1 51 15) (m.1 51 16)) wg wt wc hnf' hi hL hI' (nI (fac (uc S))) (m'.2 51 12)
        refine ⟨m26, m29, _, m34, m34, e1, e2, e3, e4, ?_, hL2, hk.x hx, _, hI2, fun j y hj => ?_⟩
        · rw [if_neg (by rw [hI2.1.1]; decide)]
        · have hr := rp_lt (uc S) (by omega) i (by omega) hi
          rw [FO_B wg wc (XF_HZ wg wt h9 hr) hG j y hj, hv j y hj, LA_s, or_assoc])
  exact ⟨m2, v, p1, hk, i1, q2, q3, q4, hv⟩
