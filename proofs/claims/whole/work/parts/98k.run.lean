/-! SEARCH: laying what lacks, in every order -/
def rp (U i : Nat) : Nat := if U = 3 then [0, 2, 1, 4, 3, 5].getD i 0 else i
theorem ord_od : ∀ U, U < 4 → ∀ i, i < 6 → ∀ s, s < 3 → (i < fac U ∧ s < U) → rn_orders.getD (3 * i + s) 0 = nI (od U (rp U i) s) := by decide +kernel
theorem rp_lt : ∀ U, U < 4 → ∀ i, i < 6 → i < fac U → rp U i < fac U := by decide +kernel
/-- what stays through the orders -/
def LI (S : Nat → Nat) (m : rn_Mem) : Prop := GMm S m ∧ S 9 = 1 ∧ m.1 53 6 = nI (uc S) ∧ (∀ c, c < S 1 → m.1 55 c = nI (mmS S c)) ∧ (∀ p, vlS S p = true → p < 48 → S (16 + p) < 16 → m.1 56 p = nI (S (16 + p))) ∧ (∀ s, s < uc S → m.1 65 s = nI (nth (unS S) s 48)) ∧ ∀ s, s < uc S → m.1 66 s = nI (nth (msS S) s 16)
theorem GMm_k {S : Nat → Nat} {m m2 : rn_Mem} (h : GMm S m) (hk : ∀ p, 52 ≤ p → p ≤ 62 → p ≠ 56 → m2.1 p = m.1 p) : GMm S m2 := by
  obtain ⟨a1, a2, a3⟩ := h
  unfold CLm at a3
  refine ⟨by rw [hk 52 (by omega) (by omega) (by omega)]; exact a1, a2, ?_⟩
  unfold CLm
  rw [hk 57 (by omega) (by omega) (by omega), hk 58 (by omega) (by omega) (by omega), hk 59 (by omega) (by omega) (by omega), hk 60 (by omega) (by omega) (by omega), hk 61 (by omega) (by omega) (by omega)]
  exact a3
theorem LI_k {S : Nat → Nat} {m m2 : rn_Mem} (h : LI S m) (hk : ∀ p, (52 ≤ p ∧ p ≤ 62) ∨ p = 65 ∨ p = 66 → m2.1 p = m.1 p) : LI S m2 := by
  obtain ⟨a1, a2, a3, a4, a5, a6, a7⟩ := h
  refine ⟨GMm_k a1 fun p h1 h2 _ => hk p (by omega), a2, ?_, ?_, ?_, ?_, ?_⟩
  · rw [hk 53 (by omega)]; exact a3
  · rw [hk 55 (by omega)]; exact a4
  · rw [hk 56 (by omega)]; exact a5
  · rw [hk 65 (by omega)]; exact a6
  · rw [hk 66 (by omega)]; exact a7
theorem fill_l59 {S : Nat → Nat} {i : Nat} (wg : WG S) (wt : WT S) (hi : i < fac (uc S)) (a1 : Int32) (x : Int64) : ∀ (r s nf : Nat) (m : rn_Mem), s + r = uc S → r < nf → LI S m → (∀ t, t < s → m.1 56 (nth (unS S) t 48) = nI (nth (msS S) (od (uc S) (rp (uc S) i) t) 16)) → ∃ m2, se_run_l59 a1 (nI i) x nf (nI s) m = some m2 ∧ LI S m2 ∧ (∀ t, t < uc S → m2.1 56 (nth (unS S) t 48) = nI (nth (msS S) (od (uc S) (rp (uc S) i) t) 16)) ∧ m2.2 = m.2 ∧ ∀ p, p ≠ 56 → m2.1 p = m.1 p := by
  intro r
  induction r with
  | zero =>
    intro s nf m e hnf hL hI
    obtain ⟨nf, rfl⟩ : ∃ e, nf = e + 1 := ⟨nf - 1, by omega⟩
    obtain rfl : s = uc S := by omega
    have hu3 : uc S ≤ 3 := (wt.2 hL.2.1).2.2.2.2
    refine ⟨m, ?_, hL, hI, rfl, fun _ _ => rfl⟩
    rw [se_run_l59, hL.2.2.1, if_neg (by rw [nI_ltI (by omega) (by omega)]; omega)]
  | succ r ih =>
    intro s nf m e hnf hL hI
    obtain ⟨nf, rfl⟩ : ∃ e, nf = e + 1 := ⟨nf - 1, by omega⟩
    obtain ⟨a1', a2, a3, a4, a5, a6, a7⟩ := hL
    have hu3 : uc S ≤ 3 := (wt.2 a2).2.2.2.2
    have hf6 := fac_6 (uc S) (by omega)
    have o1 := ord_od (uc S) (by omega) i (by omega) s (by omega) ⟨hi, by omega⟩
    have o3 := od_lt3 (uc S) (by omega) _ (by have := rp_lt (uc S) (by omega) i (by omega) hi; omega) (rp_lt (uc S) (by omega) i (by omega) hi) s (by omega)
    obtain ⟨n1, n2, n3⟩ := nth_sp (p := unS S) (s := s) (N := 48) (by rw [un_48 wg wt a2]; omega)
    have hne : ∀ t, t < s → nth (unS S) t 48 ≠ nth (unS S) s 48 := by
      intro t ht y
      obtain ⟨_, _, t3⟩ := nth_sp (p := unS S) (s := t) (N := 48) (by rw [un_48 wg wt a2]; omega)
      rw [y, n3] at t3
      omega
    have hun : ∀ p, S (16 + p) < 16 → p ≠ nth (unS S) s 48 := by
      intro p hp y
      rw [← y] at n2
      unfold unS at n2
      rw [Bool.and_eq_true, decide_eq_true_iff] at n2
      omega
    generalize hmr : rm_i m 56 (nth (unS S) s 48) (nI (nth (msS S) (od (uc S) (rp (uc S) i) s) 16)) = mr
    have f1 : ∀ p, p ≠ 56 → mr.1 p = m.1 p := fun p hp => by rw [← hmr]; funext k; rw [mi_get, if_neg (fun t => hp t.1)]
    have f2 : ∀ k, k ≠ nth (unS S) s 48 → mr.1 56 k = m.1 56 k := fun k hk => by rw [← hmr, mi_get, if_neg (fun t => hk t.2)]
    have f3 : mr.1 56 (nth (unS S) s 48) = nI (nth (msS S) (od (uc S) (rp (uc S) i) s) 16) := by rw [← hmr, mi_get, if_pos ⟨rfl, rfl⟩]
    have f4 : mr.2 = m.2 := by rw [← hmr]; rfl
    obtain ⟨m2, p1, p2, p3, p4, p5⟩ := ih (s + 1) nf mr (by omega) (by omega) ⟨GMm_k a1' fun p _ _ h => f1 p h, a2, by rw [f1 53 (by omega)]; exact a3, by rw [f1 55 (by omega)]; exact a4, fun p h1 h2 h3 => by rw [f2 p (hun p h3)]; exact a5 p h1 h2 h3, by rw [f1 65 (by omega)]; exact a6, by rw [f1 66 (by omega)]; exact a7⟩ (fun t ht => by
      by_cases y : t = s
      · rw [y]; exact f3
      · rw [f2 _ (hne t (by omega))]; exact hI t (by omega))
    refine ⟨m2, ?_, p2, p3, by rw [p4, f4], fun p hp => by rw [p5 p hp, f1 p hp]⟩
    have e1 : (3 : Int32) * nI i + nI s = nI (3 * i + s) := by rw [k3, pk_mul, nI_add]
    rw [se_run_l59, a3, if_pos (by rw [nI_ltI (by omega) (by omega)]; omega), if_pos (by rw [k3, nI_ltI (by omega) (by omega)]; omega), if_pos ((in_n (by omega)).mpr (by omega)), e1, if_pos ((in_n (by omega)).mpr (show 3 * i + s < rn_orders.length from show 3 * i + s < 18 by omega)), nI_n (show 3 * i + s < 2 ^ 31 by omega), o1, if_pos ((in_n (by omega)).mpr (show od (uc S) (rp (uc S) i) s < 3 by omega)), nI_n (show s < 2 ^ 31 by omega), a6 s (by omega), if_pos ((in_n (by omega)).mpr n1), nI_n (show nth (unS S) s 48 < 2 ^ 31 by omega), nI_n (show od (uc S) (rp (uc S) i) s < 2 ^ 31 by omega), a7 _ o3, hmr]
    simp only [Option.bind_some, nI_1]
    exact p1
theorem fill_T {S : Nat → Nat} {r : Nat} {m : rn_Mem} (wg : WG S) (wt : WT S) (hL : LI S m) (h : ∀ t, t < uc S → m.1 56 (nth (unS S) t 48) = nI (nth (msS S) (od (uc S) r t) 16)) : TMm S (XF S r) m := by
  obtain ⟨a1, a2, a3, a4, a5, a6, a7⟩ := hL
  refine ⟨a4, fun c i j hc hi hj => ?_⟩
  obtain ⟨k1, k2, _⟩ := XF_k wg wt a2 hc hi hj
  unfold XF
  by_cases z : S (16 + (12 * c + S 1 * i + j)) < 16
  · rw [if_pos z]; exact a5 _ k1 k2 z
  · rw [if_neg z]
    have hu : unS S (12 * c + S 1 * i + j) = true := by unfold unS; rw [k1, decide_eq_true (by omega)]; rfl
    have h1 : fb_ct (unS S) (12 * c + S 1 * i + j) < uc S := by
      rw [← un_48 wg wt a2]
      have h2 : fb_ct (unS S) (12 * c + S 1 * i + j + 1) ≤ fb_ct (unS S) 48 := fb_ct_mono _ k2
      rw [fb_ct_succ, if_pos hu] at h2
      omega
    have := h _ h1
    rw [nth_of hu k2] at this
    exact this
def Prun (p i : Nat) : Prop := (p = 51 ∧ 9 ≤ i ∧ i ≤ 16 ∧ i ≠ 10) ∨ p = 56 ∨ p = 63 ∨ p = 64 ∨ p = 67 ∨ p = 69 ∨ (70 ≤ p ∧ p ≤ 101)
def Kx (m m2 : rn_Mem) : Prop := (∀ p i, ¬ Prun p i → m2.1 p i = m.1 p i) ∧ ∀ p, p ≠ 51 → p < 70 ∨ 101 < p → m2.2 p = m.2 p
theorem run_body {V : Type} {S : Nat → Nat} {i aim nf : Nat} {Inv : rn_Mem → V → Prop} {add : (Nat → Nat → Nat) → (Nat → Nat → Nat → Nat) → V → (Nat → Nat) → (Nat → Nat) → V} {v : V} {m : rn_Mem} (hA : ∀ Y Z, YZ S (F0S S) Y Z → AI S (F0S S) Y Z aim Inv (add Y Z)) (wg : WG S) (wt : WT S) (wc : WC S) (hnf : 1000 < nf) (hi : i < fac (uc S)) (hL : LI S m) (hI : Inv m v) (a1 : Int32) (x : Int64) : ∃ m26 m29 m34 Y Z cl, se_run_l59 a1 (nI i) x nf 0 m = some m26 ∧ se_gather nf m26 = some m29 ∧ se_lastLeader nf m29 = some (cT (nd0 S), m29) ∧ se_lay nf 16 (m29.1 52 2 - 1) (cT (nd0 S)) 0 0 0 0 m29 = some m34 ∧ GD S (XF S (rp (uc S) i)) Y Z cl ∧ Inv m34 (FO S (F0S S) Y Z (add Y Z) (S 2) v (nd0 S) (fun _ => 0) (fun _ => 0)) ∧ LI S m34 ∧ (∀ t, t < uc S → m34.1 56 (nth (unS S) t 48) = nI (nth (msS S) (od (uc S) (rp (uc S) i) t) 16)) ∧ Kx m m34 := by
  have h9 := hL.2.1
  have hu3 : uc S ≤ 3 := (wt.2 h9).2.2.2.2
  have hf6 := fac_6 (uc S) (by omega)
  have hr := rp_lt (uc S) (by omega) i (by omega) hi
  obtain ⟨m26, p1, p2, p3, p4, p5⟩ := fill_l59 wg wt hi a1 x (uc S) 0 nf m (by omega) (by omega) hL (fun t ht => absurd ht (Nat.not_lt_zero t))
  obtain ⟨m29, Y, Z, cl, q1, q2, q3, q4, q5, q6, q7⟩ := gather_sp hnf wg wc (XF_HZ wg wt h9 hr) (XF_DX wg wt h9 hr) p2.1 (fill_T wg wt p2 p3)
  have g1 := q2.1
  have g2 := q2.2.1
  have g6 := q2.2.2.1
  have g8 := q2.2.2.2.1
  have w3 : 1 ≤ S 2 := wg.2.2.1
  have w4 : S 2 ≤ 4 := wg.2.2.2.1
  have A := hA Y Z q3
  have k29 : ∀ p, ¬ (p = 51 ∨ p = 63 ∨ p = 64 ∨ (70 ≤ p ∧ p ≤ 101)) → m29.1 p = m26.1 p := fun p hp => by
    funext k
    exact q7.1 p k (fun y => hp (by unfold Pga at y; omega))
  have hI29 : Inv m29 v := A.2.1 m m29 v hI (fun k hk => by rw [q7.1 51 k (fun y => by unfold Pga at y; omega), p5 51 (by omega)]) (by rw [k29 69 (by omega), p5 69 (by omega)]) (by rw [q7.2 51 (Or.inl (by omega)), p4])
  have hneed : nd0 S < S 1 ∨ nd0 S = 4 := by
    unfold nd0
    have w1 : 2 ≤ S 1 := wg.1
    by_cases z : S 6 = 0 ∨ S 8 = 4
    · rw [if_pos z]; exact Or.inr rfl
    · rw [if_neg z]; exact Or.inl (Nat.mod_lt _ (by omega))
  obtain ⟨m34, r1, r2, r3, r4, r5⟩ := lay_top A wg wc q3 (show 140 < nf by omega) (fun _ => 0) (fun _ => 0) hneed q2 q4 q5 hI29
  have k34 : ∀ p, ¬ (p = 51 ∨ p = 64 ∨ p = 67 ∨ p = 69) → m34.1 p = m29.1 p := fun p hp => by
    funext k
    exact r3.1 p k (fun y => hp (by unfold Pla at y; omega))
  refine ⟨m26, m29, m34, Y, Z, cl, p1, q1, lastLeader_sp (by omega) wg g1 g2 g6 g8, ?_, q6, r2, ?_, fun t ht => ?_, ⟨fun p k hp => ?_, fun p h1 h2 => ?_⟩⟩
  · rw [g2, show nI (S 2) - 1 = nI (S 2 - 1) from pk_sub (b := 1) (by omega)]
    exact r1
  · exact LI_k p2 fun p hp => by rw [k34 p (by omega), k29 p (by omega)]
  · rw [k34 56 (by omega), k29 56 (by omega)]; exact p3 t ht
  · rw [r3.1 p k (fun y => hp (by unfold Pla at y; unfold Prun; omega)), q7.1 p k (fun y => hp (by unfold Pga at y; unfold Prun; omega)), p5 p (fun y => hp (by unfold Prun; omega))]
  · rw [r3.2 p h1, q7.2 p h2, p4]
