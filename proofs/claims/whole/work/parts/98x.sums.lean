/-! SEARCH: sums over the orders of what lacks, whatever their sequence -/
theorem sum_rp {f : Nat → Nat} {U : Nat} (h : U < 4) : fb_sm (fun k => f (rp U k)) (fac U) = fb_sm f (fac U) := by
  by_cases z : U = 3
  · subst z
    show 0 + f 0 + f 2 + f 1 + f 4 + f 3 + f 5 = 0 + f 0 + f 1 + f 2 + f 3 + f 4 + f 5
    omega
  · refine fb_sm_cong fun k _ => ?_
    unfold rp
    rw [if_neg z]
/-- how many good lines in all -/
noncomputable def cAll (S : Nat → Nat) : Nat := fb_sm (fun r => cL S (XF S r)) (fac (uc S))
theorem FN_count {S : Nat → Nat} {u : NV} {um : Nat → Nat} (hu : uc S < 4) (h : FN S (fac (uc S)) u um) : u.1 = cAll S := by
  rw [h.1]
  exact sum_rp (f := fun r => cL S (XF S r)) hu
theorem GA_e {S : Nat → Nat} {C : (Nat → Nat → Nat → Nat) → (Nat → Nat) → (Nat → Nat) → Prop} (hu : uc S < 4) : GA S (fac (uc S)) C ↔ ∃ r w q, r < fac (uc S) ∧ GL S (XF S r) w q ∧ C (XF S r) w q := by
  unfold GA
  rw [LA_e hu]
  constructor
  · rintro ⟨r, w, q, h1, h2, h3, h4⟩
    exact ⟨r, w, q, h1, ⟨h2, h3⟩, h4⟩
  · rintro ⟨r, w, q, h1, ⟨h2, h3⟩, h4⟩
    exact ⟨r, w, q, h1, h2, h3, h4⟩
theorem UD_e {S : Nat → Nat} {t x : Nat} (hu : uc S < 4) : UD S (fac (uc S)) t x ↔ t < uc S ∧ ∃ r, r < fac (uc S) ∧ (∃ w q, GL S (XF S r) w q) ∧ nth (msS S) (od (uc S) r t) 16 = x := by
  have hf6 := fac_6 (uc S) hu
  unfold UD
  constructor
  · rintro ⟨h0, k, h1, h2, h3⟩
    exact ⟨h0, rp (uc S) k, rp_lt (uc S) hu k (by omega) h1, h2, h3⟩
  · rintro ⟨h0, r, h1, h2, h3⟩
    have e := rp_rp (uc S) hu r (by omega) h1
    exact ⟨h0, rp (uc S) r, rp_lt (uc S) hu r (by omega) h1, by rw [e]; exact h2, by rw [e]; exact h3⟩
