/-! SEARCH: what all plays of one filling come to -/
/-- what is kept, against what was kept before and the good lines of X -/
def FA (S : Nat → Nat) (X : Nat → Nat → Nat → Nat) (u u2 : NV) : Prop := u2.1 = u.1 + cL S X ∧ (∀ y, (0 < u2.1 ∧ u2.2.1 ≤ y) ↔ (0 < u.1 ∧ u.2.1 ≤ y) ∨ ∃ w q, GL S X w q ∧ rwQ S X w q (S 2) ≤ y) ∧ (∀ x, u2.2.2.1.testBit x = true ↔ u.2.2.1.testBit x = true ∨ ∃ w q, GL S X w q ∧ ∃ j, j < S 2 ∧ (kWh S (ldQ S X w q j) (xcQ S X w q j) (S 1)).testBit x = true) ∧ (∀ x, u2.2.2.2.1.testBit x = true ↔ u.2.2.2.1.testBit x = true ∨ ∃ w q, GL S X w q ∧ ∃ j, j < S 2 ∧ 4 * j + ldQ S X w q j = x) ∧ (∀ x, u2.2.2.2.2.testBit x = true ↔ u.2.2.2.2.testBit x = true ∨ ∃ w q, GL S X w q ∧ ∃ j, j < S 2 ∧ 4 * j + w j = x)
/-- a test that a good line makes true if D holds of it -/
theorem FO_N {S : Nat → Nat} {X : Nat → Nat → Nat → Nat} {Y : Nat → Nat → Nat} {Z : Nat → Nat → Nat → Nat} {cl : Nat → Nat → Nat} {T : NV → Prop} {B D : (Nat → Nat) → (Nat → Nat) → Prop} {u : NV} (wg : WG S) (wc : WC S) (hH : HZ S X) (hG : GD S X Y Z cl) (hD : ∀ w u q p, agr S w u → agr S q p → D w q → D u p) (hB : ∀ w av, WY S X Y Z w av → (B w av ↔ ∃ q, pks S cl w av q ∧ D w q)) (h : ∀ v w' av', WY S X Y Z w' av' → nbG S (F0S S) Z w' av' (S 2) = 0 ∧ bkG S (F0S S) Y Z w' av' (S 2) = 0 → (T (addN S (F0S S) Y Z v w' av') ↔ T v ∨ B w' av')) : T (FO S (F0S S) Y Z (addN S (F0S S) Y Z) (S 2) u (nd0 S) (fun _ => 0) (fun _ => 0)) ↔ T u ∨ ∃ w q, GL S X w q ∧ D w q := by
  have w3 : 1 ≤ S 2 := wg.2.2.1
  rw [FO_lines (T := T) (B := fun w av => (nbG S (F0S S) Z w av (S 2) = 0 ∧ bkG S (F0S S) Y Z w av (S 2) = 0) ∧ B w av) (C := fun w q => (nbQ S X w q (S 2) = 0 ∧ bkQ S X w q (S 2) = 0) ∧ D w q) wg hG ?_ ?_ ?_]
  · constructor
    · rintro (h1 | ⟨w, q, a1, a2, a3⟩)
      · exact Or.inl h1
      · exact Or.inr ⟨w, q, ⟨a1, a2⟩, a3⟩
    · rintro (h1 | ⟨w, q, ⟨a1, a2⟩, a3⟩)
      · exact Or.inl h1
      · exact Or.inr ⟨w, q, a1, a2, a3⟩
  · rintro w u q p h1 h2 ⟨hc, hd⟩
    rw [nbQ_g h1 h2 (Nat.le_refl _), bkQ_g h1 h2 (Nat.le_refl _)] at hc
    exact ⟨hc, hD w u q p h1 h2 hd⟩
  · intro w av hp
    rw [hB w av (PV_b hp)]
    constructor
    · rintro ⟨b1, q, hq, hd⟩
      obtain ⟨_, e1, e2, e3⟩ := pks_V wg wc hH hG hp hq
      rw [e1, e3] at b1
      exact ⟨q, hq, b1, hd⟩
    · rintro ⟨q, hq, b1, hd⟩
      obtain ⟨_, e1, e2, e3⟩ := pks_V wg wc hH hG hp hq
      rw [e1, e3]
      exact ⟨b1, q, hq, hd⟩
  · intro v w' av' hp
    by_cases z : nbG S (F0S S) Z w' av' (S 2) = 0 ∧ bkG S (F0S S) Y Z w' av' (S 2) = 0
    · rw [h v w' av' (PV_b hp) z]
      exact ⟨fun t => t.elim Or.inl fun t => Or.inr ⟨z, t⟩, fun t => t.elim Or.inl fun t => Or.inr t.2⟩
    · unfold addN
      rw [if_neg z]
      exact ⟨Or.inl, fun t => t.elim id fun t => absurd t.1 z⟩
theorem pks_fu {S : Nat → Nat} {cl : Nat → Nat → Nat} {w av q : Nat → Nat} {j x : Nat} (hq : pks S cl w av q) (h1 : cl (nnk S (F0S S) w j) x = av j) (h2 : x < noS S) : pks S cl w av (fu q j x) := by
  intro i hi
  by_cases z : i = j
  · rw [z, fu_s]; exact ⟨h1, h2⟩
  · rw [fu_n z]; exact hq i hi
theorem WY_q {S : Nat → Nat} {X : Nat → Nat → Nat → Nat} {Y : Nat → Nat → Nat} {Z : Nat → Nat → Nat → Nat} {cl : Nat → Nat → Nat} {w av : Nat → Nat} (hG : GD S X Y Z cl) (hp : WY S X Y Z w av) : ∃ q, pks S cl w av q := by
  obtain ⟨q, h, _⟩ := pks_7 hG hp
  exact ⟨q, h⟩
theorem FO_all {S : Nat → Nat} {X : Nat → Nat → Nat → Nat} {Y : Nat → Nat → Nat} {Z : Nat → Nat → Nat → Nat} {cl : Nat → Nat → Nat} {v : Int64 × Int64 × Nat × Nat × Nat} {u : NV} (wg : WG S) (wc : WC S) (hH : HZ S X) (hG : GD S X Y Z cl) (hR : RA v u) : ∃ u2, RA (FO S (F0S S) Y Z (addA S (F0S S) Y Z) (S 2) v (nd0 S) (fun _ => 0) (fun _ => 0)) u2 ∧ FA S X u u2 := by
  have w3 : 1 ≤ S 2 := wg.2.2.1
  refine ⟨FO S (F0S S) Y Z (addN S (F0S S) Y Z) (S 2) u (nd0 S) (fun _ => 0) (fun _ => 0), ?_, ?_, fun y => ?_, fun x => ?_, fun x => ?_, fun x => ?_⟩
  · exact FO_R (R := RA) (fun v u w' av' h1 _ _ hp => RA_step h1 (pm_pos (X := X) hG (PV_b hp)) (rwA_lt wg hH hG (PV_b hp))) hR
  · rw [← FO_count wg wc hH hG]
    refine FO_R (R := fun (a : NV) (b : Nat) => a.1 = b) (fun v u w' av' h1 _ _ hp => ?_) rfl
    show (addN S (F0S S) Y Z v w' av').1 = u + (if nbG S (F0S S) Z w' av' (S 2) = 0 ∧ bkG S (F0S S) Y Z w' av' (S 2) = 0 then pmA S (F0S S) Z w' av' (S 2) else 0)
    unfold addN
    by_cases z : nbG S (F0S S) Z w' av' (S 2) = 0 ∧ bkG S (F0S S) Y Z w' av' (S 2) = 0
    · rw [if_pos z, if_pos z, ← h1]
    · rw [if_neg z, if_neg z, h1, Nat.add_zero]
  · refine FO_N (T := fun u : NV => 0 < u.1 ∧ u.2.1 ≤ y) (B := fun w av => rwA S (F0S S) Z w av (S 2) ≤ y) (D := fun w q => rwQ S X w q (S 2) ≤ y) wg wc hH hG ?_ ?_ ?_
    · intro w u q p h1 h2 hd
      rw [← rwQ_g w3 h1 h2 (Nat.le_refl _)]
      exact hd
    · intro w av hp
      obtain ⟨_, i2, i3⟩ := rwA_b wg hH hG hp (r := S 2) (Nat.le_refl _)
      constructor
      · intro hb
        obtain ⟨q, q1, q2⟩ := pks_7 hG hp
        exact ⟨q, q1, by rw [← i3 q q1 q2]; exact hb⟩
      · rintro ⟨q, q1, q2⟩
        exact Nat.le_trans (i2 q q1) q2
    · intro v w' av' hp z
      have hpm := pm_pos hG hp
      unfold addN
      rw [if_pos z]
      show (0 < v.1 + pmA S (F0S S) Z w' av' (S 2) ∧ (if v.1 = 0 then rwA S (F0S S) Z w' av' (S 2) else if rwA S (F0S S) Z w' av' (S 2) < v.2.1 then rwA S (F0S S) Z w' av' (S 2) else v.2.1) ≤ y) ↔ (0 < v.1 ∧ v.2.1 ≤ y) ∨ rwA S (F0S S) Z w' av' (S 2) ≤ y
      by_cases t : v.1 = 0
      · rw [if_pos t]; omega
      · rw [if_neg t]
        by_cases s : rwA S (F0S S) Z w' av' (S 2) < v.2.1
        · rw [if_pos s]; omega
        · rw [if_neg s]; omega
  · refine FO_N (T := fun u : NV => u.2.2.1.testBit x = true) (B := fun w av => (hoA S (F0S S) Z w av (S 2)).testBit x = true) (D := fun w q => ∃ j, j < S 2 ∧ (kWh S (ldQ S X w q j) (xcQ S X w q j) (S 1)).testBit x = true) wg wc hH hG ?_ ?_ ?_
    · rintro w u q p h1 h2 ⟨j, d1, d2⟩
      refine ⟨j, d1, ?_⟩
      rw [← ldQ_g h1 h2 d1, ← xcQ_g h1 h2 d1]
      exact d2
    · intro w av hp
      rw [hoA_bit]
      constructor
      · rintro ⟨j, j1, j2⟩
        obtain ⟨b1, b2, b3⟩ := hp j j1
        obtain ⟨_, _, _, g2⟩ := way_G hG b1 b2
        obtain ⟨_, _, g3, _⟩ := g2 (av j) b3
        obtain ⟨z, z1, z2, z3⟩ := (g3 x).mp j2
        obtain ⟨q, hq⟩ := WY_q hG hp
        refine ⟨fu q j z, pks_fu hq z2 z1, j, j1, ?_⟩
        unfold ldQ xcQ
        rw [fu_s]
        exact z3
      · rintro ⟨q, hq, j, j1, j2⟩
        obtain ⟨b1, b2, b3⟩ := hp j j1
        obtain ⟨_, _, _, g2⟩ := way_G hG b1 b2
        obtain ⟨_, _, g3, _⟩ := g2 (av j) b3
        exact ⟨j, j1, (g3 x).mpr ⟨q j, (hq j j1).2, (hq j j1).1, j2⟩⟩
    · intro v w' av' hp z
      unfold addN
      rw [if_pos z]
      show (v.2.2.1 ||| hoA S (F0S S) Z w' av' (S 2)).testBit x = true ↔ _
      rw [Nat.testBit_or, Bool.or_eq_true]
  · refine FO_N (T := fun u : NV => u.2.2.2.1.testBit x = true) (B := fun w av => (leA S (F0S S) Z w av (S 2)).testBit x = true) (D := fun w q => ∃ j, j < S 2 ∧ 4 * j + ldQ S X w q j = x) wg wc hH hG ?_ ?_ ?_
    · rintro w u q p h1 h2 ⟨j, d1, d2⟩
      refine ⟨j, d1, ?_⟩
      rw [← ldQ_g h1 h2 d1]
      exact d2
    · intro w av hp
      rw [leA_bit]
      have hk : ∀ q, pks S cl w av q → ∀ j, j < S 2 → kz S (F0S S) Z 1 w av j = ldQ S X w q j := fun q hq j hj => by
        obtain ⟨b1, b2, b3⟩ := hp j hj
        exact (kz_1 hG b1 b2 (hq j hj).2 (hq j hj).1.symm).1
      constructor
      · rintro ⟨j, j1, j2⟩
        obtain ⟨q, hq⟩ := WY_q hG hp
        exact ⟨q, hq, j, j1, by rw [← hk q hq j j1]; exact j2⟩
      · rintro ⟨q, hq, j, j1, j2⟩
        exact ⟨j, j1, by rw [hk q hq j j1]; exact j2⟩
    · intro v w' av' hp z
      unfold addN
      rw [if_pos z]
      show (v.2.2.2.1 ||| leA S (F0S S) Z w' av' (S 2)).testBit x = true ↔ _
      rw [Nat.testBit_or, Bool.or_eq_true]
  · refine FO_N (T := fun u : NV => u.2.2.2.2.testBit x = true) (B := fun w av => (wiA S (F0S S) Y w (S 2)).testBit x = true) (D := fun w q => ∃ j, j < S 2 ∧ 4 * j + w j = x) wg wc hH hG ?_ ?_ ?_
    · rintro w u q p h1 h2 ⟨j, d1, d2⟩
      refine ⟨j, d1, ?_⟩
      rw [← h1 j d1]
      exact d2
    · intro w av hp
      rw [wiA_bit]
      have hk : ∀ j, j < S 2 → Y 0 (nnk S (F0S S) w j) = w j := fun j hj => by
        obtain ⟨b1, b2, b3⟩ := hp j hj
        exact (way_G hG b1 b2).1
      constructor
      · rintro ⟨j, j1, j2⟩
        obtain ⟨q, hq⟩ := WY_q hG hp
        exact ⟨q, hq, j, j1, by rw [← hk j j1]; exact j2⟩
      · rintro ⟨q, hq, j, j1, j2⟩
        exact ⟨j, j1, by rw [hk j j1]; exact j2⟩
    · intro v w' av' hp z
      unfold addN
      rw [if_pos z]
      show (v.2.2.2.2 ||| wiA S (F0S S) Y w' (S 2)).testBit x = true ↔ _
      rw [Nat.testBit_or, Bool.or_eq_true]
