/-! SEARCH: a heap turned about, and other games -/
def XT (S : Nat → Nat) (tc : Nat) (XL : Nat → Nat → Nat → Nat) (c i j : Nat) : Nat := XL c (if c = tc ∧ c < 4 then mmS S c - 1 - i else i) j
noncomputable def dcB (p : Prop) : Bool := @decide p (Classical.propDecidable p)
theorem dcB_iff {p : Prop} : dcB p = true ↔ p := @decide_eq_true_iff p (Classical.propDecidable p)
/-- a chair's heap turned about lets a play -/
def tuP (S : Nat → Nat) (c : Nat) : Prop := ∃ r w q, r < fac (uc S) ∧ LN S (XT S c (XF S r)) w q ∧ nbQ S (XT S c (XF S r)) w q (S 2) = 0 ∧ bkQ S (XT S c (XF S r)) w q (S 2) = 0
noncomputable def tuN (S : Nat → Nat) : Nat := bm (fun c => dcB (tuP S c)) (S 1)
/-- the laws of the game g -/
def SO (S : Nat → Nat) (g i : Nat) : Nat := if i = 4 then (if g < 6 then 4 else g / 6 - 1) else if i = 5 then g / 2 % 3 else if i = 6 then g % 2 else S i
def otP (S : Nat → Nat) (g : Nat) : Prop := ∃ r w q, r < fac (uc (SO S g)) ∧ GL (SO S g) (XF (SO S g) r) w q
noncomputable def otN (S : Nat → Nat) : Nat := bm (fun g => dcB (otP S g)) 30
/-- the class's game, table and clues -/
def cS3 (S _V : Nat → Nat) (p : Nat) (m : rn_Mem) : Prop := cGa S (m.1 (p + 1)) ∧ cTa S (m.1 (p + 2)) (m.1 (p + 3)) (m.1 (p + 4)) (m.1 (p + 5)) ∧ cCl S (m.1 (p + 6)) (m.1 (p + 7)) (m.1 (p + 8)) (m.1 (p + 9)) (m.1 (p + 10)) ∧ True
theorem cS3_k {S V : Nat → Nat} {p : Nat} {m m2 : rn_Mem} (h : cS3 S V p m) (hk : ∀ q, p + 1 ≤ q → q ≤ p + 15 → m2.1 q = m.1 q) : cS3 S V p m2 := by
  unfold cS3 at *
  rw [hk (p + 1) (by omega) (by omega), hk (p + 2) (by omega) (by omega), hk (p + 3) (by omega) (by omega), hk (p + 4) (by omega) (by omega), hk (p + 5) (by omega) (by omega), hk (p + 6) (by omega) (by omega), hk (p + 7) (by omega) (by omega), hk (p + 8) (by omega) (by omega), hk (p + 9) (by omega) (by omega), hk (p + 10) (by omega) (by omega)]
  exact h
