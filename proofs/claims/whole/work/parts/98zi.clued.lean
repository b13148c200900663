/-! THE REFERENCE'S SEARCH: its clues against the class's broken ones -/
theorem kBr_bit {S : Nat → Nat} {L x : Nat} {f : Nat → Nat} : ∀ {j : Nat}, (kBr S L f j).testBit x = true ↔ ∃ i, i < j ∧ x < S 10 ∧ ahB S ((L + i) % S 1) (f i) x = true
  | 0 => by
    rw [kBr, Nat.zero_testBit]
    exact ⟨fun h => absurd h (by decide), fun ⟨i, h, _⟩ => absurd h (Nat.not_lt_zero i)⟩
  | j + 1 => by
    rw [kBr, Nat.testBit_or, Bool.or_eq_true, kBr_bit, bm_bit, Bool.and_eq_true, decide_eq_true_iff]
    constructor
    · rintro (⟨i, h1, h2⟩ | h)
      · exact ⟨i, by omega, h2⟩
      · exact ⟨j, by omega, h⟩
    · rintro ⟨i, h1, h2⟩
      by_cases e : i = j
      · rw [e] at h2; exact Or.inr h2
      · exact Or.inl ⟨i, by omega, h2⟩
theorem laQ_bit {S : Nat → Nat} {X : Nat → Nat → Nat → Nat} {w : Nat → Nat} {x : Nat} : ∀ {r : Nat}, r ≤ S 2 → ((laQ S X w r).testBit x = true ↔ ∃ j, S 2 - r ≤ j ∧ j < S 2 ∧ (msk (fR S X w j) (S 1)).testBit x = true)
  | 0, _ => by
    rw [laQ, Nat.zero_testBit]
    exact ⟨fun h => absurd h (by decide), fun ⟨j, h1, h2, _⟩ => by omega⟩
  | r + 1, hr => by
    rw [laQ, Nat.testBit_or, Bool.or_eq_true, laQ_bit (by omega)]
    constructor
    · rintro (⟨j, h1, h2, h3⟩ | h)
      · exact ⟨j, by omega, h2, h3⟩
      · exact ⟨_, Nat.le_refl _, by omega, h⟩
    · rintro ⟨j, h1, h2, h3⟩
      by_cases q : j = S 2 - (r + 1)
      · rw [q] at h3; exact Or.inr h3
      · exact Or.inl ⟨j, by omega, h2, h3⟩
theorem bkQ_bit {S : Nat → Nat} {X : Nat → Nat → Nat → Nat} {w q : Nat → Nat} {x : Nat} : ∀ {r : Nat}, r ≤ S 2 → ((bkQ S X w q r).testBit x = true ↔ ∃ j, S 2 - r ≤ j ∧ j < S 2 ∧ ((kBr S (ldQ S X w q j) (xcQ S X w q j) (S 1)).testBit x = true ∨ (x < S 10 ∧ agB S j (ldQ S X w q j) (msk (fR S X w j) (S 1)) (laQ S X w (S 2 - (j + 1))) (suQ S X w q (S 2 - j)) x = true)))
  | 0, _ => by
    rw [bkQ, Nat.zero_testBit]
    exact ⟨fun h => absurd h (by decide), fun ⟨j, h1, h2, _⟩ => by omega⟩
  | r + 1, hr => by
    have e1 : S 2 - (S 2 - (r + 1) + 1) = r := by omega
    have e2 : S 2 - (S 2 - (r + 1)) = r + 1 := by omega
    rw [bkQ, Nat.testBit_or, Nat.testBit_or, Bool.or_eq_true, Bool.or_eq_true, bkQ_bit (by omega), bm_bit, Bool.and_eq_true, decide_eq_true_iff]
    constructor
    · rintro ((⟨j, h1, h2, h3⟩ | h) | h)
      · exact ⟨j, by omega, h2, h3⟩
      · exact ⟨_, Nat.le_refl _, by omega, Or.inl h⟩
      · refine ⟨_, Nat.le_refl _, by omega, Or.inr ?_⟩
        rw [e1, e2]
        exact h
    · rintro ⟨j, h1, h2, h3⟩
      by_cases z : j = S 2 - (r + 1)
      · rw [z, e1, e2] at h3
        rcases h3 with h3 | h3
        · exact Or.inl (Or.inr h3)
        · exact Or.inr h3
      · exact Or.inl (Or.inl ⟨j, by omega, h2, h3⟩)
theorem and_0 {a b : Nat} : a &&& b = 0 ↔ ∀ x, ¬ (a.testBit x = true ∧ b.testBit x = true) := by
  constructor
  · intro h x hx
    have := Nat.zero_testBit x
    rw [← h, Nat.testBit_and, hx.1, hx.2] at this
    exact absurd this (by decide)
  · intro h
    apply Nat.eq_of_testBit_eq
    intro x
    rw [Nat.testBit_and, Nat.zero_testBit]
    cases e1 : a.testBit x with
    | false => rfl
    | true =>
      cases e2 : b.testBit x with
      | false => rfl
      | true => exact absurd ⟨e1, e2⟩ (h x)
theorem msk_tr {S : Nat → Nat} {X : Nat → Nat → Nat → Nat} {w : Nat → Nat} {x j : Nat} (wg : WG S) (hD : DX S X) (hX : SX S X) (h : FT S w) (hx : x < 16) (hp : (S 3).testBit x = true) (hj : j < S 2) : (msk (fR S X w j) (S 1)).testBit x = true ↔ trR S X w x = j := by
  obtain ⟨k, t, h1, h2, h3⟩ := SX_tr hX h hx hp
  have e := tr_sp wg hD h h1 h2
  rw [h3] at e
  rw [e, msk_bit]
  constructor
  · rintro ⟨i, i1, i2⟩
    rw [← h3] at i2
    exact (fR_ne hD h hj h1 i1 h2 i2).1.symm
  · rintro rfl
    exact ⟨t, h2, h3⟩
theorem tr_lt {S : Nat → Nat} {X : Nat → Nat → Nat → Nat} {w : Nat → Nat} {x : Nat} (wg : WG S) (hD : DX S X) (hX : SX S X) (h : FT S w) (hx : x < 16) (hp : (S 3).testBit x = true) : trR S X w x < S 2 := by
  obtain ⟨k, t, h1, h2, h3⟩ := SX_tr hX h hx hp
  rw [← h3, tr_sp wg hD h h1 h2]
  exact h1
theorem bk_one {S : Nat → Nat} {X : Nat → Nat → Nat → Nat} {w p : Nat → Nat} {b M x : Nat} (wg : WG S) (wc : WC S) (hD : DX S X) (hX : SX S X) (hF : FT S w) (hb : b < S 1) (hq : OKQ S X w b p) (hx : x < S 10) (hM : M.testBit x = true) : (bkQ S X w p (S 2)).testBit x = true ↔ ¬ (CO S M (ldR S w b) (trR S X w) x ∧ ∀ k, k < S 2 → CTk S M k (trR S X w) (plQ S X w b p k) (nb4 (suQ S X w p (S 2 - k))) x) := by
  have w1 : 2 ≤ S 1 := wg.1
  have w2 : S 1 ≤ 4 := wg.2.1
  have hld : ∀ k, k < S 2 → ldQ S X w p k = ldR S w b k := fun k hk => ld_ok wg hF hb hk (hq k hk).2
  rw [bkQ_bit (Nat.le_refl _)]
  have hw := wc.2 x hx
  unfold CO CTk agB
  rcases hw with hw | hw | hw | hw
  · obtain ⟨k, t, h1, h2, h3⟩ := SX_tr hX hF hw.2.2.1 hw.2.2.2.1
    have etr := tr_sp wg hD hF h1 h2
    rw [h3] at etr
    obtain ⟨s, hs, hso⟩ := od_sur w2 (Nat.lt_of_lt_of_le (hq k h1).1 (noS_fac w1 w2)) h2
    have hxs : xcQ S X w p k s = S (66 + 4 * x) := by unfold xcQ; rw [hso]; exact h3
    have hinj := xc_inj wg hD hF h1 (hq k h1).1
    have hpl : plQ S X w b p k (S (66 + 4 * x)) = (ldR S w b k + s) % S 1 := by unfold plQ; rw [← hxs, ixf_sp w2 hinj hs]
    have hK : ∀ j, j < S 2 → ((kBr S (ldQ S X w p j) (xcQ S X w p j) (S 1)).testBit x = true ↔ j = k ∧ (ldR S w b k + s) % S 1 ≠ S (65 + 4 * x)) := by
      intro j hj
      rw [kBr_bit]
      constructor
      · rintro ⟨i, i1, _, i3⟩
        unfold ahB at i3
        rw [decide_eq_true_iff] at i3
        have e1 : fR S X w j (od (S 1) (p j) i) = fR S X w k t := by rw [h3]; exact i3.2.1.symm
        have ejk := (fR_ne hD hF hj h1 (od_in w1 w2 (hq j hj).1 i1) h2 e1).1
        subst ejk
        have eis : i = s := hinj i s i1 hs (by rw [hxs]; exact i3.2.1.symm)
        subst eis
        rw [hld j hj] at i3
        exact ⟨rfl, fun t => i3.2.2 t.symm⟩
      · rintro ⟨rfl, h⟩
        refine ⟨s, hs, hx, ?_⟩
        unfold ahB
        rw [decide_eq_true_iff, hld j hj]
        exact ⟨hw.1, hxs.symm, fun t => h t.symm⟩
    constructor
    · rintro ⟨j, _, j2, j3⟩ ⟨_, h⟩
      rcases j3 with j3 | ⟨_, j3⟩
      · obtain ⟨rfl, j4⟩ := (hK j j2).mp j3
        exact j4 (hpl ▸ (h j j2 hM).1 hw.1 etr)
      · rw [hw.1] at j3
        simp at j3
    · intro h
      refine ⟨k, Nat.zero_le k |> fun t => by omega, h1, Or.inl ((hK k h1).mpr ⟨rfl, fun e => h ⟨fun _ => ⟨fun t => by omega, fun t => by omega⟩, fun l hl _ => ⟨fun _ e2 => ?_, fun t => by omega⟩⟩⟩)⟩
      rw [etr] at e2
      subst e2
      rw [hpl]; exact e
  · constructor
    · rintro ⟨j, _, j2, j3⟩ ⟨h, _⟩
      rcases j3 with j3 | ⟨_, j3⟩
      · obtain ⟨i, _, _, i3⟩ := kBr_bit.mp j3
        unfold ahB at i3
        rw [decide_eq_true_iff, hw.1] at i3
        omega
      · rw [hw.1, hld j j2] at j3
        simp at j3
        have := (h hM).1 hw.1
        rw [j3.1] at this
        exact j3.2 this.symm
    · intro h
      refine ⟨S (66 + 4 * x), by omega, hw.2.2.1, Or.inr ⟨hx, ?_⟩⟩
      rw [hld _ hw.2.2.1, hw.1]
      have hne : S (65 + 4 * x) ≠ ldR S w b (S (66 + 4 * x)) := fun e => h ⟨fun _ => ⟨fun _ => e.symm, fun t => by omega⟩, fun k _ _ => ⟨fun t => by omega, fun t => by omega⟩⟩
      simp [hne]
  · have m1 := fun j hj => msk_tr (j := j) wg hD hX hF hw.2.1 hw.2.2.1 hj
    have m2 := fun j hj => msk_tr (j := j) wg hD hX hF hw.2.2.2.1 hw.2.2.2.2.1 hj
    have l1 := tr_lt wg hD hX hF hw.2.1 hw.2.2.1
    have l2 := tr_lt wg hD hX hF hw.2.2.2.1 hw.2.2.2.2.1
    have hla : ∀ j, j < S 2 → ((laQ S X w (S 2 - (j + 1))).testBit (S (66 + 4 * x)) = true ↔ j < trR S X w (S (66 + 4 * x))) := by
      intro j hj
      rw [laQ_bit (by omega)]
      constructor
      · rintro ⟨l, a1, a2, a3⟩
        rw [(m2 l a2).mp a3]; omega
      · intro h
        exact ⟨_, by omega, l2, (m2 _ l2).mpr rfl⟩
    constructor
    · rintro ⟨j, _, j2, j3⟩ ⟨h, _⟩
      rcases j3 with j3 | ⟨_, j3⟩
      · obtain ⟨i, _, _, i3⟩ := kBr_bit.mp j3
        unfold ahB at i3
        rw [decide_eq_true_iff, hw.1] at i3
        omega
      · rw [hw.1] at j3
        simp only [show ¬ (2 : Nat) = 1 by decide, show ¬ (2 : Nat) = 3 by decide, false_and, decide_false, Bool.false_or, Bool.or_false, Bool.false_and, decide_true, Bool.true_and, Bool.and_eq_true, Bool.not_eq_true'] at j3
        have e1 := (m1 j j2).mp j3.1
        have := (h hM).2 hw.1
        rw [e1] at this
        rw [(hla j j2).mpr this] at j3
        exact absurd j3.2 (by decide)
    · intro h
      refine ⟨trR S X w (S (65 + 4 * x)), by omega, l1, Or.inr ⟨hx, ?_⟩⟩
      rw [hw.1]
      simp only [show ¬ (2 : Nat) = 1 by decide, show ¬ (2 : Nat) = 3 by decide, false_and, decide_false, Bool.false_or, Bool.or_false, Bool.false_and, decide_true, Bool.true_and, Bool.and_eq_true, Bool.not_eq_true']
      refine ⟨(m1 _ l1).mpr rfl, ?_⟩
      cases e : (laQ S X w (S 2 - (trR S X w (S (65 + 4 * x)) + 1))).testBit (S (66 + 4 * x)) with
      | false => rfl
      | true =>
        have := (hla _ l1).mp e
        exact absurd ⟨fun _ => ⟨fun t => by omega, fun _ => this⟩, fun k _ _ => ⟨fun t => by omega, fun t => by omega⟩⟩ h
  · constructor
    · rintro ⟨j, _, j2, j3⟩ ⟨_, h⟩
      rcases j3 with j3 | ⟨_, j3⟩
      · obtain ⟨i, _, _, i3⟩ := kBr_bit.mp j3
        unfold ahB at i3
        rw [decide_eq_true_iff, hw.1] at i3
        omega
      · rw [hw.1] at j3
        simp only [show ¬ (3 : Nat) = 1 by decide, show ¬ (3 : Nat) = 2 by decide, false_and, decide_false, Bool.false_or, Bool.false_and, true_and, Bool.and_eq_true, decide_eq_true_iff] at j3
        have := (h j j2 hM).2 hw.1 j3.1
        rw [nb4_bit hw.2.2.1, j3.2] at this
        exact absurd this (by decide)
    · intro h
      refine ⟨S (67 + 4 * x), by omega, hw.2.2.2, Or.inr ⟨hx, ?_⟩⟩
      rw [hw.1]
      simp only [show ¬ (3 : Nat) = 1 by decide, show ¬ (3 : Nat) = 2 by decide, false_and, decide_false, Bool.false_or, Bool.false_and, true_and, decide_true, Bool.true_and]
      cases e : (suQ S X w p (S 2 - S (67 + 4 * x))).testBit (4 * S (65 + 4 * x) + S (66 + 4 * x)) with
      | true => rfl
      | false =>
        refine absurd ⟨fun _ => ⟨fun t => by omega, fun t => by omega⟩, fun k _ _ => ⟨fun t => by omega, fun _ e2 => ?_⟩⟩ h
        rw [← e2, nb4_bit hw.2.2.1]; exact e
theorem bk_M {S : Nat → Nat} {X : Nat → Nat → Nat → Nat} {w p : Nat → Nat} {b M : Nat} (wg : WG S) (wc : WC S) (hD : DX S X) (hX : SX S X) (hF : FT S w) (hb : b < S 1) (hq : OKQ S X w b p) : bkQ S X w p (S 2) &&& M = 0 ↔ COQ S X w b M ∧ ∀ k, k < S 2 → CTQ S X w b M p k := by
  have key : ∀ x, x < S 10 → M.testBit x = true → _ := fun x hx hM => bk_one wg wc hD hX hF hb hq hx hM
  rw [and_0]
  constructor
  · intro h
    have h2 : ∀ x, x < S 10 → CO S M (ldR S w b) (trR S X w) x ∧ ∀ k, k < S 2 → CTk S M k (trR S X w) (plQ S X w b p k) (nb4 (suQ S X w p (S 2 - k))) x := by
      intro x hx
      by_cases yM : M.testBit x = true
      · refine Classical.byContradiction fun n => ?_
        exact h x ⟨(key x hx yM).mpr n, yM⟩
      · exact ⟨fun t => absurd t yM, fun k _ t => absurd t yM⟩
    exact ⟨fun x hx => (h2 x hx).1, fun k hk x hx => (h2 x hx).2 k hk⟩
  · rintro ⟨h1, h2⟩ x ⟨x1, x2⟩
    have hx : x < S 10 := by
      obtain ⟨j, _, _, j3⟩ := (bkQ_bit (Nat.le_refl _)).mp x1
      rcases j3 with j3 | j3
      · obtain ⟨_, _, h, _⟩ := kBr_bit.mp j3; exact h
      · exact j3.1
    exact (key x hx x2).mp x1 ⟨h1 x hx, fun k hk => h2 k hk x hx⟩
/-- good, as far as the clues of M go -/
def GM (S : Nat → Nat) (X : Nat → Nat → Nat → Nat) (M : Nat) (w p : Nat → Nat) : Prop := nbQ S X w p (S 2) = 0 ∧ bkQ S X w p (S 2) &&& M = 0
theorem nb_0 {S : Nat → Nat} {X : Nat → Nat → Nat → Nat} {w p : Nat → Nat} : ∀ {r : Nat}, nbQ S X w p r = 0 ↔ ∀ j, j < r → cnt (wrQ S X w p j) = 0
  | 0 => ⟨fun _ j h => absurd h (Nat.not_lt_zero j), fun _ => rfl⟩
  | r + 1 => by
    have ih := nb_0 (S := S) (X := X) (w := w) (p := p) (r := r)
    rw [nbQ]
    constructor
    · intro h j hj
      by_cases e : j = r
      · rw [e]; omega
      · exact ih.mp (by omega) j (by omega)
    · intro h
      have h1 := ih.mpr fun j hj => h j (by omega)
      have h2 := h r (by omega)
      omega
theorem GM_iff {S : Nat → Nat} {X : Nat → Nat → Nat → Nat} {w p : Nat → Nat} {b M pc : Nat} {few : Int32} (wg : WG S) (wc : WC S) (hD : DX S X) (hX : SX S X) (hF : FT S w) (hb : b < S 1) (hq : OKQ S X w b p) : GM S X M w p ↔ COQ S X w b M ∧ ∀ k, k < S 2 → LTp S X w b M false pc k p few := by
  unfold GM LTp
  rw [bk_M wg wc hD hX hF hb hq, nb_0]
  simp only [if_neg (show ¬ false = true by decide)]
  constructor
  · rintro ⟨h1, h2, h3⟩
    exact ⟨h2, fun k hk => ⟨h1 _ (by omega), h3 k hk⟩⟩
  · rintro ⟨h1, h2⟩
    refine ⟨fun j hj => ?_, h1, fun k hk => (h2 k hk).2⟩
    have := (h2 (S 2 - (j + 1)) (by omega)).1
    rw [show S 2 - (S 2 - (j + 1) + 1) = j by omega] at this
    exact this
