/-! SEARCH: the lines that the class goes over -/
def PVQ (S : Nat → Nat) (X : Nat → Nat → Nat → Nat) : Nat → Nat → (Nat → Nat) → (Nat → Nat) → Prop
  | 0, _, _, _ => True
  | k + 1, need, w, q => (w k < S 1 ∧ 0 < lfk S w (k + 1) (w k) ∧ (S 6 = 1 ∨ need = 4 ∨ w k = need)) ∧ q k < noS S ∧ mlk S k (ldQ S X w q k) need (lfk S w k (ldQ S X w q k)) = true ∧ PVQ S X k (nxn S (ldQ S X w q k)) w q
theorem kz_1 {S : Nat → Nat} {X : Nat → Nat → Nat → Nat} {Y : Nat → Nat → Nat} {Z : Nat → Nat → Nat → Nat} {cl : Nat → Nat → Nat} {w q av : Nat → Nat} {j : Nat} (hG : GD S X Y Z cl) (h1 : w j < S 1) (h2 : 0 < lfk S w (j + 1) (w j)) (h3 : q j < noS S) (hav : av j = cl (nnk S (F0S S) w j) (q j)) : kz S (F0S S) Z 1 w av j = ldQ S X w q j ∧ av j < Y 2 (nnk S (F0S S) w j) := by
  have hi : ixk S w j < mmS S (w j) := by
    have := lfk_le (S := S) (w := w) (k := j + 1) (c := w j)
    unfold ixk mmS
    omega
  obtain ⟨g0, g1, g2⟩ := hG (w j) (ixk S w j) h1 hi
  obtain ⟨t1, t2, _⟩ := g2.2.1 (q j) h3
  unfold kz
  rw [hav]
  exact ⟨t2, t1⟩
theorem PV_of {S : Nat → Nat} {X : Nat → Nat → Nat → Nat} {Y : Nat → Nat → Nat} {Z : Nat → Nat → Nat → Nat} {cl : Nat → Nat → Nat} {w q av : Nat → Nat} (hG : GD S X Y Z cl) : ∀ {k need : Nat}, (∀ j, j < k → av j = cl (nnk S (F0S S) w j) (q j)) → (∀ j, j < k → q j < noS S) → (PV S (F0S S) Y Z k need w av ↔ PVQ S X k need w q)
  | 0, need, _, _ => Iff.rfl
  | k + 1, need, hav, hq => by
    rw [PV, PVQ]
    have ih : ∀ nd, PV S (F0S S) Y Z k nd w av ↔ PVQ S X k nd w q := fun nd => PV_of hG (fun j hj => hav j (by omega)) (fun j hj => hq j (by omega))
    constructor
    · rintro ⟨⟨h1, h2, h3⟩, h4, h5, h6⟩
      obtain ⟨e1, e2⟩ := kz_1 hG h1 h2 (hq k (by omega)) (hav k (by omega))
      rw [e1] at h5 h6
      exact ⟨⟨h1, h2, h3⟩, hq k (by omega), h5, (ih _).mp h6⟩
    · rintro ⟨⟨h1, h2, h3⟩, h4, h5, h6⟩
      obtain ⟨e1, e2⟩ := kz_1 hG h1 h2 (hq k (by omega)) (hav k (by omega))
      rw [e1]
      exact ⟨⟨h1, h2, h3⟩, e2, h5, (ih _).mpr h6⟩
theorem PV_b {S F0 : Nat → Nat} {Y : Nat → Nat → Nat} {Z : Nat → Nat → Nat → Nat} {w av : Nat → Nat} : ∀ {k need : Nat}, PV S F0 Y Z k need w av → ∀ j, j < k → w j < S 1 ∧ 0 < lfk S w (j + 1) (w j) ∧ av j < Y 2 (nnk S F0 w j)
  | 0, _, _, j, hj => absurd hj (Nat.not_lt_zero j)
  | k + 1, need, h, j, hj => by
    rw [PV] at h
    obtain ⟨⟨h1, h2, h3⟩, h4, h5, h6⟩ := h
    by_cases z : j = k
    · rw [z]; exact ⟨h1, h2, h4⟩
    · exact PV_b h6 j (by omega)
theorem PVQ_b {S : Nat → Nat} {X : Nat → Nat → Nat → Nat} {w q : Nat → Nat} : ∀ {k need : Nat}, PVQ S X k need w q → ∀ j, j < k → w j < S 1 ∧ 0 < lfk S w (j + 1) (w j) ∧ q j < noS S
  | 0, _, _, j, hj => absurd hj (Nat.not_lt_zero j)
  | k + 1, need, h, j, hj => by
    rw [PVQ] at h
    obtain ⟨⟨h1, h2, h3⟩, h4, h5, h6⟩ := h
    by_cases z : j = k
    · rw [z]; exact ⟨h1, h2, h4⟩
    · exact PVQ_b h6 j (by omega)
/-- each way has an order -/
theorem cl_of {S : Nat → Nat} {X : Nat → Nat → Nat → Nat} {Y : Nat → Nat → Nat} {Z : Nat → Nat → Nat → Nat} {cl : Nat → Nat → Nat} {w : Nat → Nat} {j a : Nat} (hG : GD S X Y Z cl) (h1 : w j < S 1) (h2 : 0 < lfk S w (j + 1) (w j)) (h3 : a < Y 2 (nnk S (F0S S) w j)) : ∃ x, x < noS S ∧ cl (nnk S (F0S S) w j) x = a := by
  have hi : ixk S w j < mmS S (w j) := by
    have := lfk_le (S := S) (w := w) (k := j + 1) (c := w j)
    unfold ixk mmS
    omega
  obtain ⟨g0, g1, g2⟩ := hG (w j) (ixk S w j) h1 hi
  obtain ⟨⟨x, s1, s2, _⟩, _⟩ := g2.2.2 a h3
  exact ⟨x, s1, s2⟩
/-- who must have won, or led, the last trick -/
def nd0 (S : Nat → Nat) : Nat := if S 6 = 0 ∨ S 8 = 4 then 4 else (S 8 + (S 2 - 1)) % S 1
/-- the leaders are as the laws say -/
def CHN (S : Nat → Nat) (X : Nat → Nat → Nat → Nat) (w q : Nat → Nat) : Prop := (S 8 = 4 ∨ ldQ S X w q 0 = S 8) ∧ ∀ k, k + 1 < S 2 → if S 6 = 0 then w k = ldQ S X w q (k + 1) else ldQ S X w q (k + 1) = (ldQ S X w q k + 1) % S 1
def LN (S : Nat → Nat) (X : Nat → Nat → Nat → Nat) (w q : Nat → Nat) : Prop := (∀ k, k < S 2 → w k < S 1 ∧ 0 < lfk S w (k + 1) (w k) ∧ q k < noS S) ∧ CHN S X w q
theorem md_p {a n : Nat} (hn : 0 < n) (ha : a < n) : ((a + n - 1) % n + 1) % n = a := by
  by_cases z : a = 0
  · subst z
    rw [Nat.zero_add, Nat.mod_eq_of_lt (show n - 1 < n by omega), show n - 1 + 1 = n by omega, Nat.mod_self]
  · rw [show a + n - 1 = a - 1 + n by omega, Nat.add_mod_right, Nat.mod_eq_of_lt (show a - 1 < n by omega), show a - 1 + 1 = a by omega, Nat.mod_eq_of_lt ha]
theorem md_q {a n : Nat} (hn : 0 < n) (ha : a < n) : ((a + 1) % n + n - 1) % n = a := by
  by_cases z : a + 1 = n
  · rw [z, Nat.mod_self, Nat.zero_add, Nat.mod_eq_of_lt (by omega)]; omega
  · rw [Nat.mod_eq_of_lt (show a + 1 < n by omega), show a + 1 + n - 1 = a + n by omega, Nat.add_mod_right, Nat.mod_eq_of_lt ha]
theorem ldQ_lt {S : Nat → Nat} {X : Nat → Nat → Nat → Nat} {w q : Nat → Nat} {k : Nat} (hn : 0 < S 1) : ldQ S X w q k < S 1 := kLd_lt hn
theorem mlk_iff {S : Nat → Nat} {k ld need lft : Nat} : mlk S k ld need lft = true ↔ (k ≠ 0 ∨ S 8 = 4 ∨ ld = S 8) ∧ (S 6 = 1 → need = 4 ∨ ld = need) ∧ (S 6 ≠ 1 → k = 0 ∨ 0 < lft) := by
  unfold mlk
  rw [Bool.and_eq_true, decide_eq_true_iff]
  by_cases z : S 6 = 1
  · rw [if_pos z, decide_eq_true_iff]
    exact ⟨fun h => ⟨h.1, fun _ => h.2, fun y => absurd z y⟩, fun h => ⟨h.1, h.2.1 z⟩⟩
  · rw [if_neg z, decide_eq_true_iff]
    exact ⟨fun h => ⟨h.1, fun y => absurd y z, fun _ => h.2⟩, fun h => ⟨h.1, h.2.2 z⟩⟩
/-- from trick k down, with what is needed there -/
theorem PVQ_ch {S : Nat → Nat} {X : Nat → Nat → Nat → Nat} {w q : Nat → Nat} (w1 : 2 ≤ S 1) (w2 : S 1 ≤ 4) (h6 : S 6 ≤ 1) : ∀ {k need : Nat}, k < S 2 → (need < S 1 ∨ need = 4) → (PVQ S X (k + 1) need w q ↔ (∀ j, j < k + 1 → w j < S 1 ∧ 0 < lfk S w (j + 1) (w j) ∧ q j < noS S) ∧ (S 8 = 4 ∨ ldQ S X w q 0 = S 8) ∧ (∀ j, j < k → if S 6 = 0 then w j = ldQ S X w q (j + 1) else ldQ S X w q (j + 1) = (ldQ S X w q j + 1) % S 1) ∧ (need = 4 ∨ (if S 6 = 0 then w k = need else ldQ S X w q k = need)))
  | 0, need, hk, hneed => by
    rw [PVQ, PVQ, mlk_iff]
    constructor
    · rintro ⟨⟨h1, h2, h3⟩, h4, ⟨h5, h7, h8⟩, _⟩
      refine ⟨fun j hj => ?_, ?_, fun j hj => absurd hj (Nat.not_lt_zero j), ?_⟩
      · obtain rfl : j = 0 := by omega
        exact ⟨h1, h2, h4⟩
      · exact h5.elim (fun z => absurd rfl z) id
      · by_cases z : S 6 = 0
        · rw [if_pos z]; exact h3.elim (fun y => by omega) id
        · rw [if_neg z]; exact h7 (by omega)
    · rintro ⟨h1, h2, _, h3⟩
      obtain ⟨a1, a2, a3⟩ := h1 0 (by omega)
      refine ⟨⟨a1, a2, ?_⟩, a3, ⟨Or.inr h2, fun z => ?_, fun _ => Or.inl rfl⟩, trivial⟩
      · by_cases z : S 6 = 0
        · rw [if_pos z] at h3; exact Or.inr h3
        · exact Or.inl (by omega)
      · rw [if_neg (by omega)] at h3; exact h3
  | k + 1, need, hk, hneed => by
    have hl := ldQ_lt (S := S) (X := X) (w := w) (q := q) (k := k + 1) (by omega)
    have hlk := ldQ_lt (S := S) (X := X) (w := w) (q := q) (k := k) (by omega)
    have hnx := nxn_lt (S := S) w1 hl
    rw [PVQ, mlk_iff, PVQ_ch w1 w2 h6 (k := k) (by omega) (Or.inl hnx)]
    have hstep : (nxn S (ldQ S X w q (k + 1)) = 4 ∨ (if S 6 = 0 then w k = nxn S (ldQ S X w q (k + 1)) else ldQ S X w q k = nxn S (ldQ S X w q (k + 1)))) ↔ if S 6 = 0 then w k = ldQ S X w q (k + 1) else ldQ S X w q (k + 1) = (ldQ S X w q k + 1) % S 1 := by
      have hne : ¬ nxn S (ldQ S X w q (k + 1)) = 4 := by omega
      rw [or_iff_right hne]
      unfold nxn
      by_cases z : S 6 = 0
      · rw [if_pos z, if_pos z, if_pos z]
      · rw [if_neg z, if_neg z, if_neg z]
        constructor
        · intro h; rw [h, md_p (by omega) hl]
        · intro h; rw [h, md_q (by omega) hlk]
    rw [hstep]
    constructor
    · rintro ⟨⟨h1, h2, h3⟩, h4, ⟨h5, h7, h8⟩, g1, g2, g3, g4⟩
      refine ⟨fun j hj => ?_, g2, fun j hj => ?_, ?_⟩
      · by_cases z : j = k + 1
        · rw [z]; exact ⟨h1, h2, h4⟩
        · exact g1 j (by omega)
      · by_cases z : j = k
        · rw [z]; exact g4
        · exact g3 j (by omega)
      · by_cases z : S 6 = 0
        · rw [if_pos z]; exact h3.elim (fun y => by omega) id
        · rw [if_neg z]; exact h7 (by omega)
    · rintro ⟨h1, h2, h3, h4⟩
      obtain ⟨a1, a2, a3⟩ := h1 (k + 1) (by omega)
      have h3k := h3 k (by omega)
      refine ⟨⟨a1, a2, ?_⟩, a3, ⟨Or.inl (by omega), fun z => ?_, fun z => Or.inr ?_⟩, fun j hj => h1 j (by omega), h2, fun j hj => h3 j (by omega), h3k⟩
      · by_cases z : S 6 = 0
        · rw [if_pos z] at h4; exact Or.inr h4
        · exact Or.inl (by omega)
      · rw [if_neg (by omega)] at h4; exact h4
      · rw [if_pos (by omega)] at h3k
        rw [← h3k]
        exact (h1 k (by omega)).2.1
theorem PVQ_LN {S : Nat → Nat} {X : Nat → Nat → Nat → Nat} {w q : Nat → Nat} (wg : WG S) : PVQ S X (S 2) (nd0 S) w q ↔ LN S X w q := by
  obtain ⟨w1, w2, w3, w4, w5, w6, w7, w8, w9, w10, w11, w12⟩ := wg
  have hnd : nd0 S < S 1 ∨ nd0 S = 4 := by
    unfold nd0
    split
    · exact Or.inr rfl
    · exact Or.inl (Nat.mod_lt _ (by omega))
  have h := PVQ_ch (S := S) (X := X) (w := w) (q := q) w1 w2 w9 (k := S 2 - 1) (by omega) hnd
  rw [show S 2 - 1 + 1 = S 2 by omega] at h
  rw [h]
  unfold LN CHN
  constructor
  · rintro ⟨h1, h2, h3, _⟩
    exact ⟨h1, h2, fun k hk => h3 k (by omega)⟩
  · rintro ⟨h1, h2, h3⟩
    refine ⟨h1, h2, fun k hk => h3 k (by omega), ?_⟩
    unfold nd0
    by_cases z : S 6 = 0 ∨ S 8 = 4
    · rw [if_pos z]; exact Or.inl rfl
    · rw [if_neg z]
      right
      rw [if_neg (fun y => z (Or.inl y))]
      have h8 : ldQ S X w q 0 = S 8 := h2.elim (fun y => absurd (Or.inr y) z) id
      have hall : ∀ k, k < S 2 → ldQ S X w q k = (S 8 + k) % S 1 := by
        intro k
        induction k with
        | zero =>
          intro hk
          rw [Nat.add_zero, h8, Nat.mod_eq_of_lt (by omega)]
        | succ k ih =>
          intro hk
          have := h3 k hk
          rw [if_neg (fun y => z (Or.inl y)), ih (by omega)] at this
          rw [this, ← Nat.add_assoc, Nat.mod_add_mod]
      exact hall (S 2 - 1) (by omega)
/-- who led the last trick, as the class reckons -/
theorem lastLeader_sp {S : Nat → Nat} {nf : Nat} {m : rn_Mem} (hnf : 20 < nf) (wg : WG S) (h1 : m.1 52 1 = nI (S 1)) (h2 : m.1 52 2 = nI (S 2)) (h6 : m.1 52 6 = nI (S 6)) (h8 : m.1 52 8 = cT (S 8)) : se_lastLeader nf m = some (cT (nd0 S), m) := by
  obtain ⟨w1, w2, w3, w4, w5, w6, w7, w8, w9, w10, w11, w12⟩ := wg
  unfold se_lastLeader nd0
  rw [h6, h8]
  by_cases z1 : S 6 = 0
  · rw [if_pos (by rw [z1]; rfl), if_pos (Or.inl z1)]; rfl
  rw [if_neg (nI_ne0 (by omega) (by omega))]
  by_cases z2 : S 8 = 4
  · rw [if_pos (cT_lt.mpr (by omega)), if_pos (Or.inr z2)]; rfl
  have z3 : ¬ (S 6 = 0 ∨ S 8 = 4) := fun y => y.elim z1 z2
  have ec : cT (S 8) = nI (S 8 % S 1) := by unfold cT; rw [if_pos (by omega), Nat.mod_eq_of_lt (by omega)]
  have hm := Nat.mod_lt (S 8 + (S 2 - 1)) (show S 1 > 0 by omega)
  have ed : cT ((S 8 + (S 2 - 1)) % S 1) = nI ((S 8 + (S 2 - 1)) % S 1) := by unfold cT; rw [if_pos (by omega)]
  rw [if_neg (mt cT_lt.mp (by omega)), if_neg z3, ed, ec]
  have loop : ∀ (s k nf : Nat), k + s = S 2 → s < nf → 1 ≤ k → se_lastLeader_l32 nf (nI ((S 8 + (k - 1)) % S 1)) (nI k) m = some (nI ((S 8 + (S 2 - 1)) % S 1), m) := by
    intro s
    induction s with
    | zero =>
      intro k nf e hnf hk
      obtain ⟨nf, rfl⟩ : ∃ e, nf = e + 1 := ⟨nf - 1, by omega⟩
      obtain rfl : k = S 2 := by omega
      rw [se_lastLeader_l32, h2, if_neg (by rw [nI_ltI (by omega) (by omega)]; omega)]
    | succ s ih =>
      intro k nf e hnf hk
      obtain ⟨nf, rfl⟩ : ∃ e, nf = e + 1 := ⟨nf - 1, by omega⟩
      have := ih (k + 1) nf (by omega) (by omega) (by omega)
      rw [show k + 1 - 1 = (k - 1) + 1 by omega] at this
      rw [se_lastLeader_l32, h2, if_pos (by rw [nI_ltI (by omega) (by omega)]; omega), ga_next_sp (x := S 8 + (k - 1)) (k := S 1) (by omega) w2 h1]
      simp only [Option.bind_some]
      rw [nI_1]
      exact this
  rw [Option.bind_some, show se_lastLeader_l32 nf (nI (S 8 % S 1)) 1 m = _ from loop (S 2 - 1) 1 nf (by omega) (by omega) (by omega)]
  rfl
