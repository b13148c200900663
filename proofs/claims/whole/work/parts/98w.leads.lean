/-! THE REFERENCE'S SEARCH: leaders -/
theorem md_2 {a n : Nat} (h : a < 2 * n) : a % n = if a < n then a else a - n := by
  by_cases z : a < n
  · rw [if_pos z, Nat.mod_eq_of_lt z]
  · rw [if_neg z, Nat.mod_eq_sub_mod (by omega), Nat.mod_eq_of_lt (by omega)]
theorem md_back {L p c n : Nat} (hL : L < n) (hp : p < n) (hc : c < n) : (L + p) % n = c ↔ (c + n - p) % n = L := by
  rw [md_2 (show L + p < 2 * n by omega), md_2 (show c + n - p < 2 * n by omega)]
  by_cases y : L + p < n
  · rw [if_pos y]
    by_cases z : c + n - p < n
    · rw [if_pos z]; omega
    · rw [if_neg z]; omega
  · rw [if_neg y]
    by_cases z : c + n - p < n
    · rw [if_pos z]; omega
    · rw [if_neg z]; omega
theorem okO_ld {S f : Nat → Nat} {L c q : Nat} (wg : WG S) (hL : L < S 1) (hc : c < S 1) : okO S (S 4) L c f q = true ↔ kLd S c (fun j => f (od (S 1) q j)) = L := by
  have w1 : 2 ≤ S 1 := wg.1
  unfold okO kLd
  rw [decide_eq_true_iff]
  have := wp_le (S 4) (fun j => f (od (S 1) q j)) (S 1 - 1)
  exact md_back hL (by omega) hc
/-- the leaders that b and the winners make -/
def ldR (S w : Nat → Nat) (b : Nat) : Nat → Nat
  | 0 => b
  | k + 1 => if S 6 = 0 then w k else (ldR S w b k + 1) % S 1
theorem ldR_lt {S w : Nat → Nat} {b : Nat} (wg : WG S) (hb : b < S 1) : ∀ {k : Nat}, (∀ j, j < k → w j < S 1) → ldR S w b k < S 1
  | 0, _ => hb
  | k + 1, h => by
    have w1 : 2 ≤ S 1 := wg.1
    rw [ldR]
    split
    · exact h k (by omega)
    · exact Nat.mod_lt _ (by omega)
/-- a line of the class is a line of the reference, with b its first leader -/
theorem LN_R {S : Nat → Nat} {X : Nat → Nat → Nat → Nat} {w q : Nat → Nat} (wg : WG S) (hm : fb_sm (mmS S) (S 1) = S 2) : LN S X w q ↔ ∃ b, b < S 1 ∧ (S 8 = 4 ∨ b = S 8) ∧ ((∀ k, k < S 2 → w k < S 1) ∧ ∀ c, c < S 1 → ctw S w c = mmS S c) ∧ ∀ k, k < S 2 → q k < noS S ∧ okO S (S 4) (ldR S w b k) (w k) (X (w k) (ixk S w k)) (q k) = true := by
  have w1 : 2 ≤ S 1 := wg.1
  have w3 : 1 ≤ S 2 := wg.2.2.1
  have h6 : S 6 ≤ 1 := wg.2.2.2.2.2.2.2.2.1
  constructor
  · rintro ⟨a1, a2, a3⟩
    have hwl : ∀ k, k < S 2 → w k < S 1 := fun k hk => (a1 k hk).1
    have hld : ∀ k, k < S 2 → ldR S w (ldQ S X w q 0) k = ldQ S X w q k := by
      intro k
      induction k with
      | zero => intro _; rfl
      | succ k ih =>
        intro hk
        have h := a3 k hk
        rw [ldR]
        by_cases z : S 6 = 0
        · rw [if_pos z] at h ⊢; exact h
        · rw [if_neg z] at h ⊢; rw [ih (by omega)]; exact h.symm
    refine ⟨ldQ S X w q 0, ldQ_lt (by omega), a2, (lf_fit hm).mp (fun k hk => ⟨(a1 k hk).1, (a1 k hk).2.1⟩), fun k hk => ⟨(a1 k hk).2.2, ?_⟩⟩
    rw [okO_ld wg (by rw [hld k hk]; exact ldQ_lt (by omega)) (hwl k hk), hld k hk]
    rfl
  · rintro ⟨b, b1, b2, b3, b4⟩
    have hfit := (lf_fit hm).mpr b3
    have hld : ∀ k, k < S 2 → ldQ S X w q k = ldR S w b k := fun k hk => (okO_ld wg (ldR_lt wg b1 fun j hj => b3.1 j (by omega)) (b3.1 k hk)).mp (b4 k hk).2
    refine ⟨fun k hk => ⟨(hfit k hk).1, (hfit k hk).2, (b4 k hk).1⟩, ?_, fun k hk => ?_⟩
    · rw [hld 0 (by omega)]; exact b2
    · rw [hld (k + 1) hk, hld k (by omega), ldR]
      by_cases z : S 6 = 0
      · rw [if_pos z, if_pos z]
      · rw [if_neg z, if_neg z]
