/-! SEARCH: the folds as sets of lines -/
def agr (S w u : Nat → Nat) : Prop := ∀ j, j < S 2 → w j = u j
theorem lfk_g {S w u : Nat → Nat} {k c : Nat} (h : agr S w u) : lfk S w k c = lfk S u k c := by
  unfold lfk
  rw [fb_ct_cong (q := fun j => decide (u (k + j) = c)) fun j hj => by rw [h (k + j) (by omega)]]
theorem ixk_g {S w u : Nat → Nat} {k : Nat} (h : agr S w u) (hk : k < S 2) : ixk S w k = ixk S u k := by
  unfold ixk
  rw [lfk_g h, h k hk]
theorem nnk_g {S F0 w u : Nat → Nat} {k : Nat} (h : agr S w u) (hk : k < S 2) : nnk S F0 w k = nnk S F0 u k := by
  unfold nnk
  rw [ixk_g h hk, h k hk]
theorem xcQ_g {S : Nat → Nat} {X : Nat → Nat → Nat → Nat} {w u q p : Nat → Nat} {k : Nat} (h : agr S w u) (h2 : agr S q p) (hk : k < S 2) : xcQ S X w q k = xcQ S X u p k := by
  unfold xcQ
  rw [ixk_g h hk, h k hk, h2 k hk]
theorem ldQ_g {S : Nat → Nat} {X : Nat → Nat → Nat → Nat} {w u q p : Nat → Nat} {k : Nat} (h : agr S w u) (h2 : agr S q p) (hk : k < S 2) : ldQ S X w q k = ldQ S X u p k := by
  unfold ldQ
  rw [xcQ_g h h2 hk, h k hk]
theorem suQ_g {S : Nat → Nat} {X : Nat → Nat → Nat → Nat} {w u q p : Nat → Nat} (h : agr S w u) (h2 : agr S q p) : ∀ {r : Nat}, r ≤ S 2 → suQ S X w q r = suQ S X u p r
  | 0, _ => rfl
  | r + 1, hr => by rw [suQ, suQ, suQ_g h h2 (by omega), ldQ_g h h2 (by omega), xcQ_g h h2 (by omega)]
theorem wrQ_g {S : Nat → Nat} {X : Nat → Nat → Nat → Nat} {w u q p : Nat → Nat} {r : Nat} (h : agr S w u) (h2 : agr S q p) (hr : r < S 2) : wrQ S X w q r = wrQ S X u p r := by
  unfold wrQ
  rw [suQ_g h h2 (by omega), ldQ_g h h2 (by omega), xcQ_g h h2 (by omega)]
theorem nbQ_g {S : Nat → Nat} {X : Nat → Nat → Nat → Nat} {w u q p : Nat → Nat} (h : agr S w u) (h2 : agr S q p) : ∀ {r : Nat}, r ≤ S 2 → nbQ S X w q r = nbQ S X u p r
  | 0, _ => rfl
  | r + 1, hr => by rw [nbQ, nbQ, nbQ_g h h2 (by omega), wrQ_g h h2 (by omega)]
theorem byQ_g {S : Nat → Nat} {X : Nat → Nat → Nat → Nat} {w u q p : Nat → Nat} (h : agr S w u) (h2 : agr S q p) : ∀ {r : Nat}, r ≤ S 2 → byQ S X w q r = byQ S X u p r
  | 0, _ => rfl
  | r + 1, hr => by rw [byQ, byQ, byQ_g h h2 (by omega), wrQ_g h h2 (by omega)]
theorem laQ_g {S : Nat → Nat} {X : Nat → Nat → Nat → Nat} {w u : Nat → Nat} (h : agr S w u) : ∀ {r : Nat}, r ≤ S 2 → laQ S X w r = laQ S X u r
  | 0, _ => rfl
  | r + 1, hr => by rw [laQ, laQ, laQ_g h (by omega), ixk_g h (by omega), h _ (by omega)]
theorem bkQ_g {S : Nat → Nat} {X : Nat → Nat → Nat → Nat} {w u q p : Nat → Nat} (h : agr S w u) (h2 : agr S q p) : ∀ {r : Nat}, r ≤ S 2 → bkQ S X w q r = bkQ S X u p r
  | 0, _ => rfl
  | r + 1, hr => by rw [bkQ, bkQ, bkQ_g h h2 (by omega), ldQ_g h h2 (by omega), xcQ_g h h2 (by omega), laQ_g h (by omega), ixk_g h (by omega), h (S 2 - (r + 1)) (by omega), suQ_g h h2 hr]
theorem LN_g {S : Nat → Nat} {X : Nat → Nat → Nat → Nat} {w u q p : Nat → Nat} (h3 : 1 ≤ S 2) (h : agr S w u) (h2 : agr S q p) (hl : LN S X w q) : LN S X u p := by
  obtain ⟨a1, a2, a3⟩ := hl
  refine ⟨fun k hk => ?_, ?_, fun k hk => ?_⟩
  · obtain ⟨b1, b2, b3⟩ := a1 k hk
    rw [h k hk] at b1 b2
    rw [lfk_g h] at b2
    rw [h2 k hk] at b3
    exact ⟨b1, b2, b3⟩
  · rw [ldQ_g h h2 (by omega)] at a2; exact a2
  · have := a3 k hk
    rw [ldQ_g h h2 hk, ldQ_g h h2 (by omega), h k (by omega)] at this
    exact this
theorem agr_s {S w u : Nat → Nat} (h : agr S w u) : agr S u w := fun j hj => (h j hj).symm
def pat (S w u : Nat → Nat) : Nat → Nat := fun j => if j < S 2 then w j else u j
theorem pat_a {S w u : Nat → Nat} : agr S w (pat S w u) := fun j hj => by unfold pat; rw [if_pos hj]
theorem pat_k {S w u : Nat → Nat} : alk (S 2) (pat S w u) u := fun j hj => by unfold pat; rw [if_neg (by omega)]
/-- q picks an order of each way -/
def pks (S : Nat → Nat) (cl : Nat → Nat → Nat) (w av q : Nat → Nat) : Prop := ∀ j, j < S 2 → cl (nnk S (F0S S) w j) (q j) = av j ∧ q j < noS S
theorem FO_lines {V : Type} {S : Nat → Nat} {X : Nat → Nat → Nat → Nat} {Y : Nat → Nat → Nat} {Z : Nat → Nat → Nat → Nat} {cl : Nat → Nat → Nat} {add : V → (Nat → Nat) → (Nat → Nat) → V} {T : V → Prop} {B C : (Nat → Nat) → (Nat → Nat) → Prop} (wg : WG S) (hG : GD S X Y Z cl) (hC : ∀ w u q p, agr S w u → agr S q p → C w q → C u p) (hB : ∀ w av, PV S (F0S S) Y Z (S 2) (nd0 S) w av → (B w av ↔ ∃ q, pks S cl w av q ∧ C w q)) {w av : Nat → Nat} {v : V} (h : ∀ v w' av', PV S (F0S S) Y Z (S 2) (nd0 S) w' av' → (T (add v w' av') ↔ T v ∨ B w' av')) : T (FO S (F0S S) Y Z add (S 2) v (nd0 S) w av) ↔ T v ∨ ∃ w q, LN S X w q ∧ C w q := by
  have w3 : 1 ≤ S 2 := wg.2.2.1
  rw [FO_T (B := B) fun v w' av' _ _ h3 => h v w' av' h3]
  constructor
  · rintro (h1 | ⟨w', av', _, _, b3, b4⟩)
    · exact Or.inl h1
    · obtain ⟨q, c1, c2⟩ := (hB w' av' b3).mp b4
      refine Or.inr ⟨w', q, (PVQ_LN wg).mp ?_, c2⟩
      exact (PV_of hG (fun j hj => (c1 j hj).1.symm) (fun j hj => (c1 j hj).2)).mp b3
  · rintro (h1 | ⟨w1, q1, b1, b2⟩)
    · exact Or.inl h1
    · right
      have ea : agr S w1 (pat S w1 w) := pat_a
      have hl2 : LN S X (pat S w1 w) q1 := LN_g w3 ea (fun j hj => rfl) b1
      have hpv : PV S (F0S S) Y Z (S 2) (nd0 S) (pat S w1 w) (pat S (avQ S cl (pat S w1 w) q1) av) := by
        refine (PV_of (q := q1) hG (fun j hj => ?_) (fun j hj => (hl2.1 j hj).2.2)).mpr ((PVQ_LN wg).mpr hl2)
        rw [← pat_a (S := S) (u := av) j hj]
        rfl
      refine ⟨pat S w1 w, pat S (avQ S cl (pat S w1 w) q1) av, pat_k, pat_k, hpv, (hB _ _ hpv).mpr ⟨q1, fun j hj => ?_, hC w1 _ q1 q1 ea (fun _ _ => rfl) b2⟩⟩
      rw [← pat_a (S := S) (u := av) j hj]
      exact ⟨rfl, (hl2.1 j hj).2.2⟩
/-- an order for each way -/
theorem pks_ex {S : Nat → Nat} {X : Nat → Nat → Nat → Nat} {Y : Nat → Nat → Nat} {Z : Nat → Nat → Nat → Nat} {cl : Nat → Nat → Nat} {w av : Nat → Nat} {nd : Nat} (hG : GD S X Y Z cl) (hp : PV S (F0S S) Y Z (S 2) nd w av) : ∃ q, pks S cl w av q := by
  have h : ∀ j, ∃ x, j < S 2 → cl (nnk S (F0S S) w j) x = av j ∧ x < noS S := by
    intro j
    by_cases hj : j < S 2
    · obtain ⟨b1, b2, b3⟩ := PV_b hp j hj
      obtain ⟨x, x1, x2⟩ := cl_of hG b1 b2 b3
      exact ⟨x, fun _ => ⟨x2, x1⟩⟩
    · exact ⟨0, fun z => absurd z hj⟩
  exact ⟨fun j => Classical.choose (h j), fun j hj => Classical.choose_spec (h j) hj⟩
theorem pks_V {S : Nat → Nat} {X : Nat → Nat → Nat → Nat} {Y : Nat → Nat → Nat} {Z : Nat → Nat → Nat → Nat} {cl : Nat → Nat → Nat} {w av q : Nat → Nat} {nd : Nat} (wg : WG S) (wc : WC S) (hH : HZ S X) (hG : GD S X Y Z cl) (hp : PV S (F0S S) Y Z (S 2) nd w av) (hq : pks S cl w av q) : VQ S w q 0 ∧ nbG S (F0S S) Z w av (S 2) = nbQ S X w q (S 2) ∧ byG S (F0S S) Z w av (S 2) = byQ S X w q (S 2) ∧ bkG S (F0S S) Y Z w av (S 2) = bkQ S X w q (S 2) := by
  have hV : VQ S w q 0 := fun j _ hj => by
    obtain ⟨b1, b2, b3⟩ := PV_b hp j hj
    exact ⟨b1, b2, (hq j hj).2⟩
  obtain ⟨_, a2, a3, _, a5⟩ := G_Q (r := S 2) wg wc hH hG (Nat.le_refl _) (by rw [Nat.sub_self]; exact hV) (fun j _ hj => (hq j hj).1.symm)
  exact ⟨hV, a2, a3, a5⟩
/-- the least rank -/
theorem FO_D {S : Nat → Nat} {X : Nat → Nat → Nat → Nat} {Y : Nat → Nat → Nat} {Z : Nat → Nat → Nat → Nat} {cl : Nat → Nat → Nat} {w av : Nat → Nat} {v : Nat} (wg : WG S) (wc : WC S) (hH : HZ S X) (hG : GD S X Y Z cl) (y : Nat) : FO S (F0S S) Y Z (addD S (F0S S) Y Z) (S 2) v (nd0 S) w av ≤ y ↔ v ≤ y ∨ ∃ w q, LN S X w q ∧ nbQ S X w q (S 2) = 0 ∧ rk (bkQ S X w q (S 2)) ≤ y := by
  refine FO_lines (T := fun v => v ≤ y) (B := fun w av => nbG S (F0S S) Z w av (S 2) = 0 ∧ rk (bkG S (F0S S) Y Z w av (S 2)) ≤ y) (C := fun w q => nbQ S X w q (S 2) = 0 ∧ rk (bkQ S X w q (S 2)) ≤ y) wg hG ?_ ?_ ?_
  · intro w u q p h1 h2 hc
    rw [← nbQ_g h1 h2 (Nat.le_refl _), ← bkQ_g h1 h2 (Nat.le_refl _)]
    exact hc
  · intro w av hp
    constructor
    · intro hb
      obtain ⟨q, hq⟩ := pks_ex hG hp
      obtain ⟨_, e1, e2, e3⟩ := pks_V wg wc hH hG hp hq
      rw [e1, e3] at hb
      exact ⟨q, hq, hb⟩
    · rintro ⟨q, hq, hb⟩
      obtain ⟨_, e1, e2, e3⟩ := pks_V wg wc hH hG hp hq
      rw [e1, e3]
      exact hb
  · intro v w' av' _
    show addD S (F0S S) Y Z v w' av' ≤ y ↔ _
    unfold addD
    by_cases z : nbG S (F0S S) Z w' av' (S 2) = 0 ∧ rk (bkG S (F0S S) Y Z w' av' (S 2)) < v
    · rw [if_pos z]
      exact ⟨fun h => Or.inr ⟨z.1, h⟩, fun h => h.elim (fun h => by omega) fun h => h.2⟩
    · rw [if_neg z]
      refine ⟨Or.inl, fun h => h.elim id fun h => ?_⟩
      have : ¬ rk (bkG S (F0S S) Y Z w' av' (S 2)) < v := fun y => z ⟨h.1, y⟩
      omega
/-- the fewest breaches: of all (i = 0), with chair i - 1 clean -/
theorem FO_B {S : Nat → Nat} {X : Nat → Nat → Nat → Nat} {Y : Nat → Nat → Nat} {Z : Nat → Nat → Nat → Nat} {cl : Nat → Nat → Nat} {w av : Nat → Nat} {v : Nat → Nat} (wg : WG S) (wc : WC S) (hH : HZ S X) (hG : GD S X Y Z cl) (i y : Nat) (hi : i ≤ S 1) : FO S (F0S S) Y Z (addB S (F0S S) Y Z) (S 2) v (nd0 S) w av i ≤ y ↔ v i ≤ y ∨ ∃ w q, LN S X w q ∧ bkQ S X w q (S 2) = 0 ∧ (i = 0 ∨ (byQ S X w q (S 2)).testBit (4 * (i - 1)) = false) ∧ nbQ S X w q (S 2) ≤ y := by
  refine FO_lines (T := fun v : Nat → Nat => v i ≤ y) (B := fun w av => bkG S (F0S S) Y Z w av (S 2) = 0 ∧ (i = 0 ∨ (byG S (F0S S) Z w av (S 2)).testBit (4 * (i - 1)) = false) ∧ nbG S (F0S S) Z w av (S 2) ≤ y) (C := fun w q => bkQ S X w q (S 2) = 0 ∧ (i = 0 ∨ (byQ S X w q (S 2)).testBit (4 * (i - 1)) = false) ∧ nbQ S X w q (S 2) ≤ y) wg hG ?_ ?_ ?_
  · intro w u q p h1 h2 hc
    rw [← nbQ_g h1 h2 (Nat.le_refl _), ← bkQ_g h1 h2 (Nat.le_refl _), ← byQ_g h1 h2 (Nat.le_refl _)]
    exact hc
  · intro w av hp
    constructor
    · intro hb
      obtain ⟨q, hq⟩ := pks_ex hG hp
      obtain ⟨_, e1, e2, e3⟩ := pks_V wg wc hH hG hp hq
      rw [e1, e2, e3] at hb
      exact ⟨q, hq, hb⟩
    · rintro ⟨q, hq, hb⟩
      obtain ⟨_, e1, e2, e3⟩ := pks_V wg wc hH hG hp hq
      rw [e1, e2, e3]
      exact hb
  · intro v w' av' _
    show addB S (F0S S) Y Z v w' av' i ≤ y ↔ _
    unfold addB
    by_cases z : bkG S (F0S S) Y Z w' av' (S 2) = 0 ∧ i ≤ S 1 ∧ (i = 0 ∨ (byG S (F0S S) Z w' av' (S 2)).testBit (4 * (i - 1)) = false) ∧ nbG S (F0S S) Z w' av' (S 2) < v i
    · rw [if_pos z]
      exact ⟨fun h => Or.inr ⟨z.1, z.2.2.1, h⟩, fun h => h.elim (fun h => by omega) fun h => h.2.2⟩
    · rw [if_neg z]
      refine ⟨Or.inl, fun h => h.elim id fun h => ?_⟩
      have : ¬ nbG S (F0S S) Z w' av' (S 2) < v i := fun y => z ⟨h.1, hi, h.2.1, y⟩
      omega
