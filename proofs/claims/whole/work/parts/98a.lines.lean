/-! SEARCH: lines (w, q): who won each trick, in which order its cards were played -/
def xcQ (S : Nat → Nat) (X : Nat → Nat → Nat → Nat) (w q : Nat → Nat) (k : Nat) : Nat → Nat := fun j => X (w k) (ixk S w k) (od (S 1) (q k) j)
def ldQ (S : Nat → Nat) (X : Nat → Nat → Nat → Nat) (w q : Nat → Nat) (k : Nat) : Nat := kLd S (w k) (xcQ S X w q k)
def suQ (S : Nat → Nat) (X : Nat → Nat → Nat → Nat) (w q : Nat → Nat) : Nat → Nat
  | 0 => 0
  | r + 1 => suQ S X w q r ||| kHo S (ldQ S X w q (S 2 - (r + 1))) (xcQ S X w q (S 2 - (r + 1))) (S 1)
def wrQ (S : Nat → Nat) (X : Nat → Nat → Nat → Nat) (w q : Nat → Nat) (r : Nat) : Nat := cin (suQ S X w q r &&& kBa S (ldQ S X w q (S 2 - (r + 1))) (xcQ S X w q (S 2 - (r + 1))) (S 1))
def nbQ (S : Nat → Nat) (X : Nat → Nat → Nat → Nat) (w q : Nat → Nat) : Nat → Nat
  | 0 => 0
  | r + 1 => nbQ S X w q r + cnt (wrQ S X w q r)
def byQ (S : Nat → Nat) (X : Nat → Nat → Nat → Nat) (w q : Nat → Nat) : Nat → Nat
  | 0 => 0
  | r + 1 => byQ S X w q r ||| wrQ S X w q r
def laQ (S : Nat → Nat) (X : Nat → Nat → Nat → Nat) (w : Nat → Nat) : Nat → Nat
  | 0 => 0
  | r + 1 => laQ S X w r ||| msk (X (w (S 2 - (r + 1))) (ixk S w (S 2 - (r + 1)))) (S 1)
def bkQ (S : Nat → Nat) (X : Nat → Nat → Nat → Nat) (w q : Nat → Nat) : Nat → Nat
  | 0 => 0
  | r + 1 => (bkQ S X w q r ||| kBr S (ldQ S X w q (S 2 - (r + 1))) (xcQ S X w q (S 2 - (r + 1))) (S 1)) ||| bm (agB S (S 2 - (r + 1)) (ldQ S X w q (S 2 - (r + 1))) (msk (X (w (S 2 - (r + 1))) (ixk S w (S 2 - (r + 1)))) (S 1)) (laQ S X w r) (suQ S X w q (r + 1))) (S 10)
/-- the tricks from k on are tricks of the heaps -/
def VQ (S w q : Nat → Nat) (k : Nat) : Prop := ∀ j, k ≤ j → j < S 2 → w j < S 1 ∧ 0 < lfk S w (j + 1) (w j) ∧ q j < noS S
theorem VQ_i {S w q : Nat → Nat} {k j : Nat} (h : VQ S w q k) (h1 : k ≤ j) (h2 : j < S 2) : ixk S w j < mmS S (w j) := by
  obtain ⟨a1, a2, _⟩ := h j h1 h2
  have := lfk_le (S := S) (w := w) (k := j + 1) (c := w j)
  unfold ixk mmS
  omega
def avQ (S : Nat → Nat) (cl : Nat → Nat → Nat) (w q : Nat → Nat) : Nat → Nat := fun k => cl (nnk S (F0S S) w k) (q k)
theorem kz_Q {S : Nat → Nat} {X : Nat → Nat → Nat → Nat} {Y : Nat → Nat → Nat} {Z : Nat → Nat → Nat → Nat} {cl : Nat → Nat → Nat} {w q av : Nat → Nat} {k j : Nat} (hG : GD S X Y Z cl) (hV : VQ S w q k) (h1 : k ≤ j) (h2 : j < S 2) (hav : av j = cl (nnk S (F0S S) w j) (q j)) : kz S (F0S S) Z 1 w av j = ldQ S X w q j ∧ kz S (F0S S) Z 2 w av j = kBa S (ldQ S X w q j) (xcQ S X w q j) (S 1) ∧ kz S (F0S S) Z 3 w av j = kHo S (ldQ S X w q j) (xcQ S X w q j) (S 1) &&& askS S ∧ kz S (F0S S) Z 4 w av j = kBr S (ldQ S X w q j) (xcQ S X w q j) (S 1) ∧ av j < Y 2 (nnk S (F0S S) w j) ∧ Y 1 (nnk S (F0S S) w j) = msk (X (w j) (ixk S w j)) (S 1) ∧ Y 0 (nnk S (F0S S) w j) = w j := by
  obtain ⟨a1, a2, a3⟩ := hV j h1 h2
  obtain ⟨g0, g1, g2⟩ := hG (w j) (ixk S w j) a1 (VQ_i hV h1 h2)
  obtain ⟨t1, t2, t3, t4, t5⟩ := g2.2.1 (q j) a3
  unfold kz
  rw [hav]
  exact ⟨t2, t3, t4, t5, t1, g1, g0⟩
theorem suQ_lt {S : Nat → Nat} {X : Nat → Nat → Nat → Nat} {w q : Nat → Nat} (w1 : 2 ≤ S 1) (w2 : S 1 ≤ 4) (hH : HZ S X) : ∀ {r : Nat}, r ≤ S 2 → VQ S w q (S 2 - r) → suQ S X w q r < 65536
  | 0, _, _ => by rw [suQ]; omega
  | r + 1, hr, hV => by
    rw [suQ]
    refine or_lt (k := 16) (suQ_lt w1 w2 hH (by omega) (fun j h1 h2 => hV j (by omega) h2)) ?_
    obtain ⟨a1, a2, a3⟩ := hV (S 2 - (r + 1)) (Nat.le_refl _) (by omega)
    have hi := VQ_i hV (Nat.le_refl _) (show S 2 - (r + 1) < S 2 by omega)
    have hfb : ∀ j, j < S 1 → xcQ S X w q (S 2 - (r + 1)) j < 16 := fun j hj => hH.2 _ _ _ a1 hi (od_in w1 w2 a3 hj)
    exact (kBa_lt (by omega) w2 hfb (fun _ => hfb 0 (by omega))).2
theorem brd_1 {S : Nat → Nat} {x l : Nat} (h : S 5 = 1) : brd S x l = 0 := by unfold brd; rw [if_pos (Or.inl h)]
theorem kBa_1 {S : Nat → Nat} {L : Nat} {f : Nat → Nat} (h : S 5 = 1) : ∀ {j : Nat}, kBa S L f j = 0
  | 0 => rfl
  | j + 1 => by rw [kBa, kBa_1 h, brd_1 h, Nat.zero_mul]; rfl
theorem m65535 {a : Nat} (h : a < 65536) : a &&& 65535 = a := by
  have : a &&& (2 ^ 16 - 1) = a % 2 ^ 16 := Nat.and_two_pow_sub_one_eq_mod a 16
  rw [show (65535 : Nat) = 2 ^ 16 - 1 from rfl, this, Nat.mod_eq_of_lt h]
/-- what the ways give is what the lines give -/
theorem G_Q {S : Nat → Nat} {X : Nat → Nat → Nat → Nat} {Y : Nat → Nat → Nat} {Z : Nat → Nat → Nat → Nat} {cl : Nat → Nat → Nat} {w q av : Nat → Nat} (wg : WG S) (wc : WC S) (hH : HZ S X) (hG : GD S X Y Z cl) : ∀ {r : Nat}, r ≤ S 2 → VQ S w q (S 2 - r) → (∀ j, S 2 - r ≤ j → j < S 2 → av j = cl (nnk S (F0S S) w j) (q j)) → suG S (F0S S) Z w av r = suQ S X w q r &&& askS S ∧ nbG S (F0S S) Z w av r = nbQ S X w q r ∧ byG S (F0S S) Z w av r = byQ S X w q r ∧ laG S (F0S S) Y w r = laQ S X w r ∧ bkG S (F0S S) Y Z w av r = bkQ S X w q r
  | 0, _, _, _ => ⟨by rw [suG, suQ, Nat.zero_and], rfl, rfl, rfl, rfl⟩
  | r + 1, hr, hV, hav => by
    obtain ⟨w1, w2, w3, w4, w5, w6, w7, w8, w9⟩ := wg
    have wg : WG S := ⟨w1, w2, w3, w4, w5, w6, w7, w8, w9⟩
    have hV' : VQ S w q (S 2 - r) := fun j h1 h2 => hV j (by omega) h2
    obtain ⟨i1, i2, i3, i4, i5⟩ := G_Q (r := r) wg wc hH hG (by omega) hV' (fun j h1 h2 => hav j (by omega) h2)
    obtain ⟨z1, z2, z3, z4, z5, z6, z7⟩ := kz_Q hG hV (Nat.le_refl _) (show S 2 - (r + 1) < S 2 by omega) (hav _ (Nat.le_refl _) (by omega))
    have hsq := suQ_lt (q := q) (w := w) w1 w2 hH (r := r) (by omega) hV'
    have hsu : suG S (F0S S) Z w av (r + 1) = suQ S X w q (r + 1) &&& askS S := by
      rw [suG, suQ, i1, z3, Nat.and_or_distrib_right]
    have hwr : wrG S (F0S S) Z w av r = wrQ S X w q r := by
      unfold wrG wrQ
      rw [i1, z2]
      by_cases h5 : S 5 = 1
      · rw [kBa_1 h5, Nat.and_zero, Nat.and_zero]
      · have : askS S = 65535 := by unfold askS; rw [if_neg h5]
        rw [this, m65535 hsq]
    have hag : agG S (F0S S) Y Z w av r = bm (agB S (S 2 - (r + 1)) (ldQ S X w q (S 2 - (r + 1))) (msk (X (w (S 2 - (r + 1))) (ixk S w (S 2 - (r + 1)))) (S 1)) (laQ S X w r) (suQ S X w q (r + 1))) (S 10) := by
      unfold agG
      rw [z1, z6, i4, hsu]
      refine bm_c fun i hi => ?_
      unfold agB
      by_cases h3 : S (64 + 4 * i) = 3
      · have hb : (askS S).testBit (4 * S (65 + 4 * i) + S (66 + 4 * i)) = true := by
          unfold askS
          obtain ⟨_, _, _, _, l5⟩ := WK_lt wg (wc.2 i hi)
          have := l5 h3
          split
          · exact sak_bit.mpr ⟨i, hi, h3, rfl⟩
          · rw [show (65535 : Nat) = 2 ^ 16 - 1 from rfl, Nat.testBit_two_pow_sub_one]
            exact decide_eq_true (by omega)
        rw [Nat.testBit_and, hb, Bool.and_true]
      · rw [show decide (S (64 + 4 * i) = 3 ∧ S (67 + 4 * i) = S 2 - (r + 1)) = false from decide_eq_false (fun z => h3 z.1), Bool.false_and, Bool.false_and]
    exact ⟨hsu, by rw [nbG, nbQ, i2, hwr], by rw [byG, byQ, i3, hwr], by rw [laG, laQ, i4, z6], by rw [bkG, bkQ, i5, z4, hag]⟩
