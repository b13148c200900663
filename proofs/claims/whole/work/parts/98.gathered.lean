/-! SEARCH: the tricks as rows of numbers -/
theorem sm_find {f : Nat → Nat} : ∀ {n u : Nat}, u < fb_sm f n → ∃ d i, d < n ∧ i < f d ∧ u = fb_sm f d + i
  | 0, u, h => absurd h (Nat.not_lt_zero u)
  | n + 1, u, h => by
    rw [fb_sm_succ] at h
    by_cases z : u < fb_sm f n
    · obtain ⟨d, i, h1, h2, h3⟩ := sm_find z
      exact ⟨d, i, by omega, h2, h3⟩
    · exact ⟨n, u - fb_sm f n, by omega, by omega, by omega⟩
theorem F0S_one {S : Nat → Nat} {c d i j : Nat} (hi : i < mmS S c) (hj : j < mmS S d) (h : F0S S c + i = F0S S d + j) : c = d ∧ i = j := by
  rcases Nat.lt_trichotomy c d with z | z | z
  · have := F0S_mono (S := S) z; omega
  · subst z; omega
  · have := F0S_mono (S := S) z; omega
/-- no card lies twice -/
def DX (S : Nat → Nat) (X : Nat → Nat → Nat → Nat) : Prop := ∀ c i j d k l, c < S 1 → i < mmS S c → j < S 1 → d < S 1 → k < mmS S d → l < S 1 → X c i j = X d k l → c = d ∧ i = k ∧ j = l
theorem od_in {S : Nat → Nat} (w1 : 2 ≤ S 1) (w2 : S 1 ≤ 4) {q j : Nat} (hq : q < noS S) (hj : j < S 1) : od (S 1) q j < S 1 := by
  have h1 := noS_le (S := S) w1 w2
  have h2 := noS_f (S := S) w1 w2
  exact od_lt (S 1) (by omega) w1 q (by omega) (by omega) j hj
/-- what the search knows of the tricks -/
def GD (S : Nat → Nat) (X : Nat → Nat → Nat → Nat) (Y : Nat → Nat → Nat) (Z : Nat → Nat → Nat → Nat) (cl : Nat → Nat → Nat) : Prop := ∀ c i, c < S 1 → i < mmS S c → Y 0 (F0S S c + i) = c ∧ Y 1 (F0S S c + i) = msk (X c i) (S 1) ∧ WPr S c (X c i) (Y 2 (F0S S c + i)) (cl (F0S S c + i)) (fun f a => Z f (F0S S c + i) a)
theorem gather_sp {S : Nat → Nat} {X : Nat → Nat → Nat → Nat} {nf : Nat} {m : rn_Mem} (hnf : 1000 < nf) (wg : WG S) (wc : WC S) (hH : HZ S X) (hD : DX S X) (hG : GMm S m) (hT : TMm S X m) : ∃ m2 Y Z cl, se_gather nf m = some m2 ∧ WMs S (F0S S) Y Z m2 ∧ YZ S (F0S S) Y Z ∧ (∀ c, c < S 1 → m2.1 64 c = nI (mmS S c)) ∧ m2.1 51 9 = 0 ∧ GD S X Y Z cl ∧ Kg m m2 := by
  obtain ⟨w1, w2, w3, w4, w5, w6, w7, w8, w9, w10, w11⟩ := wg
  have wg : WG S := ⟨w1, w2, w3, w4, w5, w6, w7, w8, w9, w10, w11⟩
  obtain ⟨g1, g2, g3, g4, g5, g6, g7, g8⟩ := hG.1.2 hG.2.1
  have hask : (if m.1 52 5 = 1 then (cl_suitsAsked nf 57 m).bind fun (r3, m2) => some (r3, m2) else some (65535, m)) = some (nI (askS S), m) := by
    rw [g5]
    unfold askS
    by_cases z : S 5 = 1
    · rw [if_pos (by rw [z]; rfl), if_pos z, suitsAsked_sp wg wc hG.2.2 (by omega)]; rfl
    · rw [if_neg (by rw [k1, nI_eq (by omega) (by omega)]; exact z), if_neg z]; rfl
  have f1 : ∀ r i, ¬ (r = 51 ∧ i = 9) → (rm_i m 51 9 0).1 r i = m.1 r i := fun r i hr => by rw [mi_get, if_neg hr]
  have e1 : ∀ r, r ≠ 51 → (rm_i m 51 9 0).1 r = m.1 r := fun r hr => by funext i; exact f1 r i (by omega)
  have hG1 : GMm S (rm_i m 51 9 0) := by
    refine ⟨by rw [e1 52 (by omega)]; exact hG.1, hG.2.1, ?_⟩
    unfold CLm
    rw [e1 57 (by omega), e1 (57 + 1) (by omega), e1 (57 + 2) (by omega), e1 (57 + 3) (by omega), e1 (57 + 4) (by omega)]
    exact hG.2.2
  obtain ⟨m2, q1, q2, q3, q4, q5⟩ := gather_l33_sp wg wc hH (S 1) 0 nf (rm_i m 51 9 0) (by omega) (by omega) hG1 (TMm_k hT (e1 55 (by omega)) (e1 56 (by omega))) (fun d j hd hj hdj => by omega) (fun d hd => absurd hd (Nat.not_lt_zero d))
  have hrun : se_gather nf m = some m2 := by
    unfold se_gather
    rw [hask, Option.bind_some]
    show (some (rm_i m 51 9 0)).bind _ = _
    rw [Option.bind_some, show se_gather_l33 (nI (askS S)) nf 0 0 (rm_i m 51 9 0) = some m2 from q1]
    rfl
  have hpick : ∀ u, ∃ D : (Nat × Nat × Nat) × (Nat → Nat) × (Nat → Nat → Nat), u < S 2 → D.1.1 < S 1 ∧ D.1.2.1 < mmS S D.1.1 ∧ u = F0S S D.1.1 + D.1.2.1 ∧ m2.1 (70 + 8 * u) 0 = nI D.1.1 ∧ m2.1 (70 + 8 * u) 1 = nI (msk (X D.1.1 D.1.2.1) (S 1)) ∧ m2.1 (70 + 8 * u) 2 = nI D.1.2.2 ∧ WPr S D.1.1 (X D.1.1 D.1.2.1) D.1.2.2 D.2.1 D.2.2 ∧ AMm (70 + 8 * u) D.1.2.2 D.2.2 m2 := by
    intro u
    by_cases hu : u < S 2
    · rw [← hH.1] at hu
      obtain ⟨d, i, h1, h2, h3⟩ := sm_find hu
      obtain ⟨a1, a2, sz, cl, A, a3, a4, a5⟩ := q2 d i h1 h2 (Or.inl h1)
      have h3' : u = F0S S d + i := h3
      rw [← h3'] at a1 a2 a3 a5
      exact ⟨((d, i, sz), cl, A), fun _ => ⟨h1, h2, h3, a1, a2, a3, a4, a5⟩⟩
    · exact ⟨((0, 0, 0), fun _ => 0, fun _ _ => 0), fun z => absurd z hu⟩
  obtain ⟨D, hpk⟩ : ∃ D : Nat → (Nat × Nat × Nat) × (Nat → Nat) × (Nat → Nat → Nat), ∀ u, u < S 2 → (D u).1.1 < S 1 ∧ (D u).1.2.1 < mmS S (D u).1.1 ∧ u = F0S S (D u).1.1 + (D u).1.2.1 ∧ m2.1 (70 + 8 * u) 0 = nI (D u).1.1 ∧ m2.1 (70 + 8 * u) 1 = nI (msk (X (D u).1.1 (D u).1.2.1) (S 1)) ∧ m2.1 (70 + 8 * u) 2 = nI (D u).1.2.2 ∧ WPr S (D u).1.1 (X (D u).1.1 (D u).1.2.1) (D u).1.2.2 (D u).2.1 (D u).2.2 ∧ AMm (70 + 8 * u) (D u).1.2.2 (D u).2.2 m2 := ⟨fun u => Classical.choose (hpick u), fun u => Classical.choose_spec (hpick u)⟩
  have hno := noS_le (S := S) w1 w2
  have hk2 : Kg m m2 := by
    refine ⟨fun r i hr => ?_, fun r hr => by rw [q5 r hr]; rfl⟩
    unfold Pga at hr
    rw [q4 r i (by omega), f1 r i (by omega)]
  have hG2 : GMm S m2 := GMm_kg hG hk2
  obtain ⟨k1', k2', k3', k4', k5', k6', k7', k8'⟩ := hG2.1.2 hG2.2.1
  refine ⟨m2, fun f u => if f = 0 then (D u).1.1 else if f = 1 then msk (X (D u).1.1 (D u).1.2.1) (S 1) else (D u).1.2.2, fun f u a => (D u).2.2 f a, fun u => (D u).2.1, hrun, ⟨k1', k2', k6', k8', fun c hc => (q3 c hc).1, hG2.2.2, fun u hu => ?_⟩, ⟨fun c hc => F0S_lt hH.1 hc, fun c d h1 h2 => F0S_mono h1, fun u hu => ?_, fun u v x hu hv hne hx => ?_⟩, fun c hc => (q3 c hc).2, ?_, fun c i hc hi => ?_, hk2⟩
  · obtain ⟨a1, a2, a3, a4, a5, a6, a7, a8⟩ := hpk u hu
    exact ⟨a4, a5, a6, a8⟩
  · obtain ⟨a1, a2, a3, a4, a5, a6, a7, a8⟩ := hpk u hu
    have hXb : ∀ j, j < S 1 → X (D u).1.1 (D u).1.2.1 j < 16 := fun j hj => hH.2 _ _ j a1 a2 hj
    refine ⟨a1, msk_lt hXb, by have := a7.1; show (D u).1.2.2 ≤ 24; omega, fun a ha => ?_⟩
    obtain ⟨⟨q, s1, s2, s3⟩, s4, s5, s6⟩ := a7.2.2 a ha
    obtain ⟨t1, t2, t3, t4, t5⟩ := a7.2.1 q s1
    rw [s2] at t2 t3 t4 t5
    have hfb : ∀ j, j < S 1 → (fun j => X (D u).1.1 (D u).1.2.1 (od (S 1) q j)) j < 16 := fun j hj => hXb _ (od_in w1 w2 s1 hj)
    obtain ⟨u1, u2⟩ := kBa_lt (S := S) (L := kLd S (D u).1.1 (fun j => X (D u).1.1 (D u).1.2.1 (od (S 1) q j))) (f := fun j => X (D u).1.1 (D u).1.2.1 (od (S 1) q j)) (by omega) w2 (j := S 1) hfb (fun _ => hfb 0 (by omega))
    have u3 := kBr_lt (S := S) (L := kLd S (D u).1.1 (fun j => X (D u).1.1 (D u).1.2.1 (od (S 1) q j))) (f := fun j => X (D u).1.1 (D u).1.2.1 (od (S 1) q j)) wc.1 (j := S 1)
    have u4 := kLd_lt (S := S) (c := (D u).1.1) (f := fun j => X (D u).1.1 (D u).1.2.1 (od (S 1) q j)) (by omega)
    have u5 := fb_ct_le (fun q => decide ((D u).2.1 q = a)) (noS S)
    have u6 := pk16_lt hfb
    have u7 : 16 ^ S 1 ≤ 16 ^ 4 := Nat.pow_le_pow_right (by decide) w2
    show (D u).2.2 1 a < S 1 ∧ (D u).2.2 2 a < 65536 ∧ (D u).2.2 3 a < 65536 ∧ (D u).2.2 4 a < 64 ∧ (D u).2.2 5 a ≤ 24 ∧ (D u).2.2 7 a < 65536
    refine ⟨by rw [t2]; exact u4, by rw [t3]; exact u1, by rw [t4]; exact Nat.lt_of_le_of_lt Nat.and_le_left u2, by rw [t5]; exact u3, by rw [s4]; omega, by rw [s3]; exact Nat.lt_of_lt_of_le u6 u7⟩
  · obtain ⟨a1, a2, a3, _⟩ := hpk u hu
    obtain ⟨b1, b2, b3, _⟩ := hpk v hv
    have hx : (msk (X (D u).1.1 (D u).1.2.1) (S 1)).testBit x = true := hx
    show (msk (X (D v).1.1 (D v).1.2.1) (S 1)).testBit x = false
    obtain ⟨j, hj, ej⟩ := msk_bit.mp hx
    cases z : (msk (X (D v).1.1 (D v).1.2.1) (S 1)).testBit x with
    | false => rfl
    | true =>
      obtain ⟨l, hl, el⟩ := msk_bit.mp z
      obtain ⟨z1, z2, _⟩ := hD _ _ _ _ _ _ a1 a2 hj b1 b2 hl (ej.trans el.symm)
      exact absurd (by rw [a3, b3, z1, z2]) hne
  · rw [q4 51 9 (by omega), mi_get, if_pos ⟨rfl, rfl⟩]
  · have hu : F0S S c + i < S 2 := by have := F0S_lt hH.1 hc; omega
    obtain ⟨a1, a2, a3, a4, a5, a6, a7, a8⟩ := hpk _ hu
    obtain ⟨z1, z2⟩ := F0S_one hi a2 a3
    rw [← z1, ← z2] at a7
    refine ⟨z1.symm, ?_, a7⟩
    show msk (X (D (F0S S c + i)).1.1 (D (F0S S c + i)).1.2.1) (S 1) = _
    rw [← z1, ← z2]
