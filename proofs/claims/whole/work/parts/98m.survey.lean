/-! SEARCH: the run for all plays -/
theorem lc_e {x y : Int64} : lg_cmp x y = 0 ↔ x = y := by
  constructor
  · intro h
    unfold lg_cmp at h
    split at h
    · exact absurd h (by decide)
    · split at h
      · assumption
      · exact absurd h (by decide)
  · rintro rfl
    exact pl_cmp x
theorem cL_pos {S : Nat → Nat} {X : Nat → Nat → Nat → Nat} {Y : Nat → Nat → Nat} {Z : Nat → Nat → Nat → Nat} {cl : Nat → Nat → Nat} (wg : WG S) (wc : WC S) (hH : HZ S X) (hG : GD S X Y Z cl) : 0 < cL S X ↔ ∃ w q, GL S X w q := by
  obtain ⟨u2, _, f1, f2, _⟩ := FO_all (v := ((0 : Int64), (0 : Int64), 0, 0, 0)) (u := (0, 0, 0, 0, 0)) wg wc hH hG ⟨rfl, rfl, fun h => absurd h (Nat.lt_irrefl 0)⟩
  have f1 : u2.1 = 0 + cL S X := f1
  rw [Nat.zero_add] at f1
  constructor
  · intro h
    rcases (f2 u2.2.1).mp ⟨by omega, Nat.le_refl _⟩ with t | ⟨w, q, t, _⟩
    · exact absurd t.1 (Nat.lt_irrefl 0)
    · exact ⟨w, q, t⟩
  · rintro ⟨w, q, t⟩
    have := ((f2 (rwQ S X w q (S 2))).mpr (Or.inr ⟨w, q, t, Nat.le_refl _⟩)).1
    omega
theorem nu_l2 {S um xs : Nat → Nat} (hu3 : uc S ≤ 3) (wg : WG S) (wt : WT S) : ∀ (r s nf : Nat) (m : rn_Mem), s + r = uc S → r < nf → LI S m → (∀ t, t < uc S → m.1 56 (nth (unS S) t 48) = nI (xs t) ∧ xs t < 16) → (∀ t, t < s → m.1 68 t = nI (um t ||| 2 ^ xs t)) → (∀ t, s ≤ t → t < 3 → m.1 68 t = nI (um t)) → ∃ m2, se_noteUnder_l2 nf (nI s) m = some m2 ∧ (∀ t, t < 3 → m2.1 68 t = nI (if t < uc S then um t ||| 2 ^ xs t else um t)) ∧ m2.2 = m.2 ∧ ∀ p, p ≠ 68 → m2.1 p = m.1 p := by
  intro r
  induction r with
  | zero =>
    intro s nf m e hnf hL hx h1 h2
    obtain ⟨nf, rfl⟩ : ∃ e, nf = e + 1 := ⟨nf - 1, by omega⟩
    obtain rfl : s = uc S := by omega
    refine ⟨m, ?_, fun t ht => ?_, rfl, fun _ _ => rfl⟩
    · rw [se_noteUnder_l2, hL.2.2.1, if_neg (by rw [nI_ltI (by omega) (by omega)]; omega)]
    · by_cases z : t < uc S
      · rw [if_pos z]; exact h1 t z
      · rw [if_neg z]; exact h2 t (by omega) ht
  | succ r ih =>
    intro s nf m e hnf hL hx h1 h2
    obtain ⟨nf, rfl⟩ : ∃ e, nf = e + 1 := ⟨nf - 1, by omega⟩
    obtain ⟨n1, n2, n3⟩ := nth_sp (p := unS S) (s := s) (N := 48) (by rw [un_48 wg wt hL.2.1]; omega)
    obtain ⟨x1, x2⟩ := hx s (by omega)
    generalize hmr : rm_i m 68 s (nI (um s ||| 2 ^ xs s)) = mr
    have f1 : ∀ p, p ≠ 68 → mr.1 p = m.1 p := fun p hp => by rw [← hmr]; funext k; rw [mi_get, if_neg (fun t => hp t.1)]
    have f2 : ∀ k, k ≠ s → mr.1 68 k = m.1 68 k := fun k hk => by rw [← hmr, mi_get, if_neg (fun t => hk t.2)]
    have f3 : mr.1 68 s = nI (um s ||| 2 ^ xs s) := by rw [← hmr, mi_get, if_pos ⟨rfl, rfl⟩]
    have f4 : mr.2 = m.2 := by rw [← hmr]; rfl
    obtain ⟨m2, p1, p2, p3, p4⟩ := ih (s + 1) nf mr (by omega) (by omega) (LI_k hL fun p hp => f1 p (by omega)) (fun t ht => by rw [f1 56 (by omega)]; exact hx t ht) (fun t ht => by
      by_cases z : t = s
      · rw [z]; exact f3
      · rw [f2 t z]; exact h1 t (by omega)) (fun t ht ht2 => by rw [f2 t (by omega)]; exact h2 t (by omega) ht2)
    refine ⟨m2, ?_, p2, by rw [p3, f4], fun p hp => by rw [p4 p hp, f1 p hp]⟩
    have i3 : rn_in (nI s) 3 = true := (in_n (by omega)).mpr (by omega)
    rw [se_noteUnder_l2, hL.2.2.1, if_pos (by rw [nI_ltI (by omega) (by omega)]; omega), if_pos (by rw [k3, nI_ltI (by omega) (by omega)]; omega), if_pos i3, if_pos i3, nI_n (show s < 2 ^ 31 by omega), hL.2.2.2.2.2.1 s (by omega), if_pos ((in_n (by omega)).mpr n1), if_pos i3, nI_n (show nth (unS S) s 48 < 2 ^ 31 by omega), x1, shl_1 (show xs s < 32 by omega), h2 s (by omega) (by omega), fa_or, hmr]
    simp only [Option.bind_some, nI_1]
    exact p1
/-- the good lines -/
def GA (S : Nat → Nat) (N : Nat) (C : (Nat → Nat → Nat → Nat) → (Nat → Nat) → (Nat → Nat) → Prop) : Prop := LA S N fun X w q => (nbQ S X w q (S 2) = 0 ∧ bkQ S X w q (S 2) = 0) ∧ C X w q
theorem GA_s {S : Nat → Nat} {N : Nat} {C : (Nat → Nat → Nat → Nat) → (Nat → Nat) → (Nat → Nat) → Prop} : GA S (N + 1) C ↔ GA S N C ∨ ∃ w q, GL S (XF S (rp (uc S) N)) w q ∧ C (XF S (rp (uc S) N)) w q := by
  unfold GA
  rw [LA_s]
  constructor
  · rintro (h | ⟨w, q, h1, h2, h3⟩)
    · exact Or.inl h
    · exact Or.inr ⟨w, q, ⟨h1, h2⟩, h3⟩
  · rintro (h | ⟨w, q, ⟨h1, h2⟩, h3⟩)
    · exact Or.inl h
    · exact Or.inr ⟨w, q, h1, h2, h3⟩
/-- under a slot: which cards may lie there -/
def UD (S : Nat → Nat) (N t x : Nat) : Prop := t < uc S ∧ ∃ k, k < N ∧ (∃ w q, GL S (XF S (rp (uc S) k)) w q) ∧ nth (msS S) (od (uc S) (rp (uc S) k) t) 16 = x
/-- what is found of all plays after N orders -/
def FN (S : Nat → Nat) (N : Nat) (u : NV) (um : Nat → Nat) : Prop := u.1 = fb_sm (fun k => cL S (XF S (rp (uc S) k))) N ∧ (∀ y, (0 < u.1 ∧ u.2.1 ≤ y) ↔ GA S N fun X w q => rwQ S X w q (S 2) ≤ y) ∧ (∀ x, u.2.2.1.testBit x = true ↔ GA S N fun X w q => ∃ j, j < S 2 ∧ (kWh S (ldQ S X w q j) (xcQ S X w q j) (S 1)).testBit x = true) ∧ (∀ x, u.2.2.2.1.testBit x = true ↔ GA S N fun X w q => ∃ j, j < S 2 ∧ 4 * j + ldQ S X w q j = x) ∧ (∀ x, u.2.2.2.2.testBit x = true ↔ GA S N fun _ w _ => ∃ j, j < S 2 ∧ 4 * j + w j = x) ∧ ∀ t x, t < 3 → ((um t).testBit x = true ↔ UD S N t x)
theorem run_A {S : Nat → Nat} {nf : Nat} {m : rn_Mem} {l0 : Int64} (wg : WG S) (wt : WT S) (wc : WC S) (hnf : 2000 < nf) (hH : SH S m) (hI : InvA m ((0 : Int64), l0, 0, 0, 0)) (h68 : ∀ t, t < 3 → m.1 68 t = 0) : ∃ m2 v u um, se_run nf m = some m2 ∧ Kz 68 m m2 ∧ InvA m2 v ∧ RA v u ∧ m2.1 69 = m.1 69 ∧ (∀ t, t < 3 → m2.1 68 t = nI (um t) ∧ um t < 65536) ∧ FN S (fac (uc S)) u um := by
  have h9 := hH.2.2.1
  have hu3 : uc S ≤ 3 := (wt.2 h9).2.2.2.2
  have hf6 := fac_6 (uc S) (by omega)
  have GA_0 : ∀ {C}, ¬ GA S 0 C := fun {C} h => LA_0 h
  obtain ⟨m2, p1, hL, hk, v, u, um, ⟨i1, q1⟩, hR, hu, hF⟩ := run_sp (nf := nf) (m := m) (JM := fun i m' => LI S m' ∧ Kz 68 m m' ∧ ∃ v u um, (InvA m' v ∧ QA (m.1 69) m') ∧ RA v u ∧ (∀ t, t < 3 → m'.1 68 t = nI (um t) ∧ um t < 65536) ∧ FN S i u um) wg wt hnf hH
    (fun m1 hL e2 e1 => by
      refine ⟨hL, ⟨fun p i _ h3 h4 _ => by rw [e1 p h3 h4], fun p _ _ => by rw [e2]⟩, ((0 : Int64), l0, 0, 0, 0), (0, 0, 0, 0, 0), fun _ => 0, ⟨?_, e1 69 (by omega) (by omega)⟩, ⟨rfl, rfl, fun h => absurd h (Nat.lt_irrefl 0)⟩, fun t ht => ⟨?_, show (0 : Nat) < 65536 by omega⟩, rfl, fun y => ⟨fun h => absurd h.1 (Nat.lt_irrefl 0), fun h => absurd h GA_0⟩, fun x => ?_, fun x => ?_, fun x => ?_, fun t x _ => ?_⟩
      · obtain ⟨a1, a2, a3, a4, a5, a6⟩ := hI
        unfold InvA
        rw [e1 51 (by omega) (by omega), e2]
        exact ⟨a1, a2, a3, a4, a5, a6⟩
      · rw [e1 68 (by omega) (by omega)]; exact h68 t ht
      · show (0 : Nat).testBit x = true ↔ _
        rw [Nat.zero_testBit]
        exact ⟨fun h => absurd h (by decide), fun h => absurd h GA_0⟩
      · show (0 : Nat).testBit x = true ↔ _
        rw [Nat.zero_testBit]
        exact ⟨fun h => absurd h (by decide), fun h => absurd h GA_0⟩
      · show (0 : Nat).testBit x = true ↔ _
        rw [Nat.zero_testBit]
        exact ⟨fun h => absurd h (by decide), fun h => absurd h GA_0⟩
      · show (0 : Nat).testBit x = true ↔ _
        rw [Nat.zero_testBit]
        exact ⟨fun h => absurd h (by decide), fun ⟨_, k, h, _⟩ => absurd h (Nat.not_lt_zero k)⟩)
    (fun i nf' m' hi hnf' hJ => by
      obtain ⟨hL, hk, v, u, um, hI', hR, hu, c1, c2, c3, c4, c5, c6⟩ := hJ
      refine ⟨fun hz => ?_, fun _ => ?_⟩
      · have h10 := hz.1
        rw [hI'.1.1] at h10
        exact absurd h10 (by decide)
      · obtain ⟨m26, m29, m34, Y, Z, cl, e1, e2, e3, e4, hG, hI2, hL2, h56, hx⟩ := run_body (add := fun Y Z => addA S (F0S S) Y Z) (fun Y Z hY => AI_AQ wg wc hY (m.1 69)) wg wt wc hnf' hi hL hI' (nI (fac (uc S))) (m'.2 51 12)
        have hr := rp_lt (uc S) (by omega) i (by omega) hi
        have hZ := XF_HZ wg wt h9 hr
        obtain ⟨u2, hR2, d1, d2, d3, d4, d5⟩ := FO_all wg wc hZ hG hR
        have hpos := cL_pos wg wc hZ hG
        have hcl := cL_lt (S := S) (X := XF S (rp (uc S) i)) wg
        have hub : u.1 ≤ i * 100000000 := by
          rw [c1]
          exact fb_sm_bound fun k _ => Nat.le_of_lt (cL_lt wg)
        have hcmp : lg_cmp (m34.2 51 12) (m'.2 51 12) = 0 ↔ ¬ ∃ w q, GL S (XF S (rp (uc S) i)) w q := by
          rw [lc_e, hI2.1.2.1, hI'.1.2.1, hR2.1, hR.1, fb_lN_inj (by omega) (by omega), d1, ← hpos]
          omega
        have hk34 := hk.x hx
        have h68' : ∀ t, t < 3 → m34.1 68 t = nI (um t) := fun t ht => by rw [hx.1 68 t (by unfold Prun; omega)]; exact (hu t ht).1
        have b2 : ∀ y, (0 < u2.1 ∧ u2.2.1 ≤ y) ↔ GA S (i + 1) fun X w q => rwQ S X w q (S 2) ≤ y := fun y => by rw [d2, c2, GA_s]
        have b3 : ∀ x, u2.2.2.1.testBit x = true ↔ GA S (i + 1) fun X w q => ∃ j, j < S 2 ∧ (kWh S (ldQ S X w q j) (xcQ S X w q j) (S 1)).testBit x = true := fun x => by rw [d3, c3, GA_s]
        have b4 : ∀ x, u2.2.2.2.1.testBit x = true ↔ GA S (i + 1) fun X w q => ∃ j, j < S 2 ∧ 4 * j + ldQ S X w q j = x := fun x => by rw [d4, c4, GA_s]
        have b5 : ∀ x, u2.2.2.2.2.testBit x = true ↔ GA S (i + 1) fun _ w _ => ∃ j, j < S 2 ∧ 4 * j + w j = x := fun x => by rw [d5, c5, GA_s]
        by_cases z : ∃ w q, GL S (XF S (rp (uc S) i)) w q
        · obtain ⟨m43, n1, n2, n3, n4⟩ := nu_l2 (um := um) (xs := fun t => nth (msS S) (od (uc S) (rp (uc S) i) t) 16) hu3 wg wt (uc S) 0 nf' m34 (by omega) (by omega) hL2 (fun t ht => ⟨h56 t ht, by
            have o3 := od_lt3 (uc S) (by omega) _ (by omega) hr t ht
            exact (nth_sp (p := msS S) (N := 16) (by rw [msc_16 wg wt h9]; exact o3)).1⟩) (fun t ht => absurd ht (Nat.not_lt_zero t)) (fun t _ ht => h68' t ht)
          refine ⟨m26, m29, _, m34, m43, e1, e2, e3, e4, ?_, LI_k hL2 fun p hp => n4 p (by omega), ⟨fun p j h1 h2 h3 h4 => by rw [n4 p h4]; exact hk34.1 p j h1 h2 h3 h4, fun p h1 h2 => by rw [n3]; exact hk34.2 p h1 h2⟩, _, u2, (fun t => if t < uc S then um t ||| 2 ^ (nth (msS S) (od (uc S) (rp (uc S) i) t) 16) else um t), ⟨?_, by unfold QA; rw [n4 69 (by omega)]; exact hI2.2⟩, hR2, fun t ht => ⟨n2 t ht, ?_⟩, by rw [d1, c1, fb_sm_succ], b2, b3, b4, b5, fun t x ht => ?_⟩
          · rw [if_pos (by rw [hI2.1.1]; rfl), if_neg (fun t => hcmp.mp t z)]
            unfold se_noteUnder
            rw [show se_noteUnder_l2 nf' 0 m34 = some m43 from n1]
            rfl
          · have hIA := hI2.1
            unfold InvA at hIA ⊢
            rw [n4 51 (by omega), n3]
            exact hIA
          · show (if t < uc S then um t ||| 2 ^ (nth (msS S) (od (uc S) (rp (uc S) i) t) 16) else um t) < 65536
            by_cases y : t < uc S
            · rw [if_pos y]
              have o3 := od_lt3 (uc S) (by omega) _ (by omega) hr t y
              have := (nth_sp (p := msS S) (N := 16) (show od (uc S) (rp (uc S) i) t < fb_ct (msS S) 16 by rw [msc_16 wg wt h9]; exact o3)).1
              exact or_lt (k := 16) (hu t ht).2 (Nat.pow_lt_pow_right (by omega) this)
            · rw [if_neg y]; exact (hu t ht).2
          · show (if t < uc S then um t ||| 2 ^ (nth (msS S) (od (uc S) (rp (uc S) i) t) 16) else um t).testBit x = true ↔ _
            have c6' := c6 t x ht
            by_cases y : t < uc S
            · rw [if_pos y, Nat.testBit_or, Bool.or_eq_true, c6', Nat.testBit_two_pow, decide_eq_true_iff]
              constructor
              · rintro (⟨_, k, k1, k2⟩ | h)
                · exact ⟨y, k, by omega, k2⟩
                · exact ⟨y, i, by omega, z, h⟩
              · rintro ⟨_, k, k1, k2, k3⟩
                by_cases s : k = i
                · rw [s] at k3; exact Or.inr k3
                · exact Or.inl ⟨y, k, by omega, k2, k3⟩
            · rw [if_neg y, c6']
              exact ⟨fun h => absurd h.1 y, fun h => absurd h.1 y⟩
        · refine ⟨m26, m29, _, m34, m34, e1, e2, e3, e4, ?_, hL2, hk34, _, u2, um, hI2, hR2, fun t ht => ⟨h68' t ht, (hu t ht).2⟩, by rw [d1, c1, fb_sm_succ], b2, b3, b4, b5, fun t x ht => ?_⟩
          · rw [if_pos (by rw [hI2.1.1]; rfl), if_pos (hcmp.mpr z)]
          · rw [c6 t x ht]
            constructor
            · rintro ⟨h1, k, k1, k2⟩
              exact ⟨h1, k, by omega, k2⟩
            · rintro ⟨h1, k, k1, k2, k3⟩
              by_cases s : k = i
              · rw [s] at k2; exact absurd k2 z
              · exact ⟨h1, k, by omega, k2, k3⟩)
  exact ⟨m2, v, u, um, p1, hk, i1, hR, q1, hu, hF⟩
