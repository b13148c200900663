/-! THE REFERENCE'S SEARCH: who won which trick -/
def ctw (S w : Nat → Nat) (c : Nat) : Nat := fb_ct (fun j => decide (w j = c)) (S 2)
theorem sm_eq {f g : Nat → Nat} : ∀ {n : Nat}, (∀ k, k < n → f k ≤ g k) → fb_sm f n = fb_sm g n → ∀ k, k < n → f k = g k
  | 0, _, _, k, hk => absurd hk (Nat.not_lt_zero k)
  | n + 1, h, e, k, hk => by
    rw [fb_sm_succ, fb_sm_succ] at e
    have h1 := fb_sm_le (f := f) (g := g) (n := n) fun k hk => h k (by omega)
    have h2 := h n (by omega)
    by_cases z : k = n
    · rw [z]; omega
    · have e2 : fb_sm f n = fb_sm g n := by omega
      exact sm_eq (fun k hk => h k (by omega)) e2 k (by omega)
theorem ct_front (p : Nat → Bool) (d : Nat) : fb_ct p (d + 1) = (if p 0 = true then 1 else 0) + fb_ct (fun j => p (1 + j)) d := by
  rw [Nat.add_comm d 1, fb_ct_split]
  congr 1
  rw [fb_ct_succ]
  exact Nat.zero_add _
theorem ctw_sum {S w : Nat → Nat} (h : ∀ k, k < S 2 → w k < S 1) : fb_sm (ctw S w) (S 1) = S 2 := by
  unfold ctw
  rw [fb_sm_cong fun c hc => ct_sm (fun j => decide (w j = c)) (S 2), fb_sm_swap (fun c j => if decide (w j = c) = true then 1 else 0) (S 2) (S 1)]
  have e : ∀ j, j < S 2 → fb_sm (fun c => if decide (w j = c) = true then 1 else 0) (S 1) = 1 := by
    intro j hj
    rw [← ct_sm (fun c => decide (w j = c)) (S 1)]
    have h1 : fb_ct (fun c => decide (w j = c)) (S 1) ≤ 1 := ct_u fun a b _ _ h1 h2 => by
      rw [decide_eq_true_iff] at h1 h2
      omega
    have h2 : 0 < fb_ct (fun c => decide (w j = c)) (S 1) := fb_ct_pos.mpr ⟨w j, h j hj, decide_eq_true rfl⟩
    omega
  rw [fb_sm_cong (g := fun _ => 1) e, fb_sm_const, Nat.mul_one]
theorem lf_le {S w : Nat → Nat} {c : Nat} (h : ∀ k, k < S 2 → 0 < lfk S w (k + 1) (w k)) : ∀ d k, k + d = S 2 → fb_ct (fun j => decide (w (k + j) = c)) d ≤ mmS S c := by
  intro d
  induction d with
  | zero => intro k _; exact Nat.zero_le _
  | succ d ih =>
    intro k hk
    rw [ct_front]
    have h1 := ih (k + 1) (by omega)
    have e : fb_ct (fun j => decide (w (k + (1 + j)) = c)) d = fb_ct (fun j => decide (w (k + 1 + j) = c)) d := fb_ct_cong fun j _ => by rw [← Nat.add_assoc]
    rw [e]
    by_cases z : w k = c
    · have h2 := h k (by omega)
      rw [z] at h2
      unfold lfk at h2
      rw [show S 2 - (k + 1) = d by omega] at h2
      unfold mmS
      rw [if_pos (decide_eq_true (by rw [Nat.add_zero]; exact z))]
      omega
    · rw [if_neg (by rw [Nat.add_zero, decide_eq_true_iff]; exact z), Nat.zero_add]
      exact h1
theorem lf_fit {S w : Nat → Nat} (hm : fb_sm (mmS S) (S 1) = S 2) : (∀ k, k < S 2 → w k < S 1 ∧ 0 < lfk S w (k + 1) (w k)) ↔ (∀ k, k < S 2 → w k < S 1) ∧ ∀ c, c < S 1 → ctw S w c = mmS S c := by
  constructor
  · intro h
    refine ⟨fun k hk => (h k hk).1, sm_eq (fun c hc => ?_) (by rw [ctw_sum fun k hk => (h k hk).1, hm])⟩
    have := lf_le (c := c) (fun k hk => (h k hk).2) (S 2) 0 (by omega)
    unfold ctw
    rw [fb_ct_cong (q := fun j => decide (w (0 + j) = c)) fun j _ => by rw [Nat.zero_add]]
    exact this
  · rintro ⟨h1, h2⟩ k hk
    refine ⟨h1 k hk, ?_⟩
    have h3 := h2 (w k) (h1 k hk)
    unfold ctw at h3
    have h4 : fb_ct (fun j => decide (w j = w k)) (k + 1 + (S 2 - (k + 1))) = mmS S (w k) := by rw [show k + 1 + (S 2 - (k + 1)) = S 2 by omega]; exact h3
    rw [fb_ct_split, fb_ct_succ, if_pos (decide_eq_true rfl)] at h4
    unfold lfk
    unfold mmS at h4
    omega
/-- which trick of its heap it is -/
theorem ix_fit {S w : Nat → Nat} {k : Nat} (hk : k < S 2) (h : ctw S w (w k) = mmS S (w k)) : ixk S w k = fb_ct (fun j => decide (w j = w k)) k := by
  unfold ctw at h
  have h4 : fb_ct (fun j => decide (w j = w k)) (k + 1 + (S 2 - (k + 1))) = mmS S (w k) := by rw [show k + 1 + (S 2 - (k + 1)) = S 2 by omega]; exact h
  rw [fb_ct_split, fb_ct_succ, if_pos (decide_eq_true rfl)] at h4
  unfold ixk lfk
  unfold mmS at h4
  omega
theorem fw_l56 {S : Nat → Nat} {a1 a2 a3 : Int32} (wg : WG S) : ∀ (k r nf : Nat) (w : Nat → Nat) (m : rn_Mem), k ≤ S 2 → r < 1000 → k < nf → m.1 116 1 = nI (S 1) → (∀ j, k ≤ j → j < S 2 → m.1 128 j = nI (w j)) → ∃ m2, mo_findWinners_l56 a1 a2 a3 nf (nI r) (nI k + (-1)) m = some m2 ∧ (∀ j, j < S 2 → m2.1 128 j = nI (dgw (S 1) k r w j)) ∧ m2.2 = m.2 ∧ ∀ p, p ≠ 128 → m2.1 p = m.1 p := by
  have w1 : 2 ≤ S 1 := wg.1
  have w2 : S 1 ≤ 4 := wg.2.1
  have w4 : S 2 ≤ 4 := wg.2.2.2.1
  intro k
  induction k with
  | zero =>
    intro r nf w m hk hr hnf z1 h
    obtain ⟨nf, rfl⟩ : ∃ e, nf = e + 1 := ⟨nf - 1, by omega⟩
    refine ⟨m, ?_, fun j hj => h j (Nat.zero_le j) hj, rfl, fun _ _ => rfl⟩
    rw [mo_findWinners_l56, if_pos (by decide)]
  | succ k ih =>
    intro r nf w m hk hr hnf z1 h
    obtain ⟨nf, rfl⟩ : ∃ e, nf = e + 1 := ⟨nf - 1, by omega⟩
    have hz : ¬ nI (S 1) = 0 := nI_ne0 (by omega) (by omega)
    have e1 : nI (k + 1) + (-1) = nI k := pk_m1 k
    have hd : r / S 1 ≤ r := Nat.div_le_self r (S 1)
    generalize hmr : rm_i m 128 k (nI (r % S 1)) = mr
    have f1 : ∀ p, p ≠ 128 → mr.1 p = m.1 p := fun p hp => by rw [← hmr]; funext i; rw [mi_get, if_neg (fun t => hp t.1)]
    obtain ⟨m2, p1, p2, p3, p4⟩ := ih (r / S 1) nf (fu w k (r % S 1)) mr (by omega) (by omega) (by omega) (by rw [f1 116 (by omega)]; exact z1) (fun j h1 h2 => by
      rw [← hmr, mi_get]
      by_cases y : j = k
      · rw [if_pos ⟨rfl, y⟩, y, fu_s]
      · rw [if_neg (fun t => y t.2), fu_n y]
        exact h j (by omega) h2)
    refine ⟨m2, ?_, p2, by rw [p3, ← hmr]; rfl, fun p hp => by rw [p4 p hp, f1 p hp]⟩
    have z1' : mr.1 116 1 = nI (S 1) := by rw [f1 116 (by omega)]; exact z1
    rw [e1, mo_findWinners_l56, if_neg (by rw [k0, nI_ltI (by omega) (by omega)]; omega), z1, if_pos hz, if_pos ((in_n (by omega)).mpr (by omega)), nI_n (by omega), rem_n (by omega) (by omega) (by omega), hmr, Option.bind_some, z1', if_pos hz, pk_div (by omega) (by omega) (by omega), Option.bind_some, Option.bind_some]
    exact p1
