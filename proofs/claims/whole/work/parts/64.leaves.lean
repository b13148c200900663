/-! LEAVES -/
/-- all of r, from j on -/
def alf (p : Nat → Bool) : Nat → Nat → Bool
  | 0, _ => true
  | r + 1, j => p j && alf p r (j + 1)
def exf (p : Nat → Bool) : Nat → Nat → Bool
  | 0, _ => false
  | r + 1, j => p j || exf p r (j + 1)
/-- the first of r, from j on, that isn't -/
def ffl (p : Nat → Bool) : Nat → Nat → Option Nat
  | 0, _ => none
  | r + 1, j => if p j = true then ffl p r (j + 1) else some j
theorem exf_iff {p : Nat → Bool} : ∀ {r j : Nat}, exf p r j = true ↔ ∃ i, j ≤ i ∧ i < j + r ∧ p i = true
  | 0, j => by
    constructor
    · intro h
      cases h
    · rintro ⟨i, h1, h2, _⟩
      omega
  | r + 1, j => by
    rw [exf, Bool.or_eq_true, exf_iff (r := r)]
    constructor
    · rintro (h | ⟨i, h1, h2, h3⟩)
      · exact ⟨j, by omega, by omega, h⟩
      · exact ⟨i, by omega, by omega, h3⟩
    · rintro ⟨i, h1, h2, h3⟩
      by_cases q : i = j
      · subst q
        exact Or.inl h3
      · exact Or.inr ⟨i, by omega, by omega, h3⟩
theorem alf_iff {p : Nat → Bool} : ∀ {r j : Nat}, alf p r j = true ↔ ∀ i, j ≤ i → i < j + r → p i = true
  | 0, j => by
    constructor
    · intro h i h1 h2
      omega
    · intro _
      rfl
  | r + 1, j => by
    rw [alf, Bool.and_eq_true, alf_iff (r := r)]
    constructor
    · rintro ⟨h1, h2⟩ i h3 h4
      by_cases q : i = j
      · subst q
        exact h1
      · exact h2 i (by omega) (by omega)
    · intro h
      exact ⟨h j (by omega) (by omega), fun i h1 h2 => h i (by omega) (by omega)⟩
/-- cards of the row at trick k -/
def Fk (S : Nat → Nat) (k i : Nat) : Nat := S (89 + (S 1 * k + i))
def lkj (S : Nat → Nat) (k c g j : Nat) : Bool := decide (16 ≤ S (16 + 12 * c + g + j)) || (if S 7 = 1 then (msk (Fk S k) (S 1)).testBit (S (16 + 12 * c + g + j)) else decide (Fk S k j = S (16 + 12 * c + g + j)))
theorem ro_like_l6_sp {n b : Nat} {F : Nat → Nat} {m : rn_Mem} {a3 a4 : Int32} (hn4 : n ≤ 4) (hb : b + n ≤ 12) (h1 : m.1 4 1 = nI n) (hF : ∀ i, i < n → F i < 16) (hm : ∀ i, i < n → m.1 15 (b + i) = nI (F i)) : ∀ (r j nf : Nat), j + r = n → r < nf → ro_like_l6 14 4 5 a3 a4 (nI b) nf (nI (msk F j)) (nI j) m = some (nI (msk F n), m) := by
  intro r
  induction r with
  | zero =>
    intro j nf e hnf
    obtain ⟨nf, rfl⟩ : ∃ e, nf = e + 1 := ⟨nf - 1, by omega⟩
    obtain rfl : j = n := by omega
    unfold ro_like_l6
    rw [h1, if_neg (by rw [nI_ltI (by omega) (by omega)]; omega)]
  | succ r ih =>
    intro j nf e hnf
    obtain ⟨nf, rfl⟩ : ∃ e, nf = e + 1 := ⟨nf - 1, by omega⟩
    have h := ih (j + 1) nf (by omega) (by omega)
    have hj := hF j (by omega)
    unfold ro_like_l6
    rw [h1, if_pos (by rw [nI_ltI (by omega) (by omega)]; omega), nI_add, if_pos ((in_n (by omega)).mpr (by omega)), nI_n (by omega), show m.1 (14 + 1) (b + j) = nI (F j) from hm j (by omega), shl_1 (by omega), fa_or, nI_1]
    exact h
theorem ro_like_l41_sp {S V : Nat → Nat} {m : rn_Mem} {k c g : Nat} (hw : WF S) (hc : cSt S V 3 m) (h9 : S 9 = 1) (h11 : S 11 = 1) (hk : k < S 2) (hc4 : c < S 1) (hg : g + S 1 ≤ S (12 + c)) : ∀ (r j nf : Nat), j + r = S 1 → r < nf → ro_like_l41 14 4 5 (nI c) (nI g) (nI (S 1 * k)) (nI (msk (Fk S k) (S 1))) nf (nI j) m = some (if alf (lkj S k c g) r j = true then .inr m else .inl (0, m)) := by
  obtain ⟨⟨g0, g1⟩, ⟨c20, c21⟩, c3, c40, c41⟩ := hc
  obtain ⟨h1, h2, h3, h4, h5, h6, h7, h8⟩ := WF_row hw h11
  obtain ⟨wg, wt, wc, wr⟩ := WF_1 hw (S11_1 hw h11)
  obtain ⟨e1, e2, e3, e4, e5, e6, e7, e8⟩ := g1 (S11_1 hw h11)
  obtain ⟨f1, f2, f3⟩ := c41 h11
  obtain ⟨d1, d2, d3, d4⟩ := c21 h9
  have hH := hp_le wg wt h9 hc4
  have h7k : S 7 ≤ 1 := wg.2.2.2.2.2.2.2.2.2.1
  have hkn := kn (n := S 1) hk
  have hM : msk (Fk S k) (S 1) < 2 ^ 16 := msk_lt fun i hi => h8 _ (by omega)
  intro r
  induction r with
  | zero =>
    intro j nf e hnf
    obtain ⟨nf, rfl⟩ : ∃ e, nf = e + 1 := ⟨nf - 1, by omega⟩
    unfold ro_like_l41
    rw [show m.1 4 1 = _ from e1, if_neg (by rw [nI_ltI (by omega) (by omega)]; omega)]
    rfl
  | succ r ih =>
    intro j nf e hnf
    obtain ⟨nf, rfl⟩ : ∃ e, nf = e + 1 := ⟨nf - 1, by omega⟩
    have h := ih (j + 1) nf (by omega) (by omega)
    have hX := (wt.2 h9).2.2.1 c (g + j) hc4 (by omega)
    rw [show 16 + 12 * c + (g + j) = 16 + 12 * c + g + j by omega] at hX
    have hcard : ta_cardAt nf 5 (nI c) (nI g + nI j) m = some (cC (S (16 + 12 * c + g + j)), m) := by
      unfold ta_cardAt
      rw [k12, pk_mul, nI_add, nI_add, if_pos ((in_n (by omega)).mpr (by omega)), nI_n (by omega), show c * 12 + (g + j) = 12 * c + (g + j) by omega, show m.1 (5 + 3) (12 * c + (g + j)) = _ from d2 c (g + j) hc4 (by omega), show 16 + 12 * c + (g + j) = 16 + 12 * c + g + j by omega]
    unfold ro_like_l41
    rw [show m.1 4 1 = _ from e1, if_pos (by rw [nI_ltI (by omega) (by omega)]; omega), hcard]
    simp only [Option.bind_some, nI_1]
    rw [alf]
    by_cases q1 : 16 ≤ S (16 + 12 * c + g + j)
    · rw [if_pos (cC_4.mpr q1), h, show lkj S k c g j = true by unfold lkj; rw [decide_eq_true q1]; rfl, Bool.true_and]
    rw [if_neg (mt cC_4.mp q1), show m.1 4 7 = _ from e7]
    have hl : lkj S k c g j = (if S 7 = 1 then (msk (Fk S k) (S 1)).testBit (S (16 + 12 * c + g + j)) else decide (Fk S k j = S (16 + 12 * c + g + j))) := by
      unfold lkj
      rw [decide_eq_false q1, Bool.false_or]
    have hcc : cC (S (16 + 12 * c + g + j)) = nI (S (16 + 12 * c + g + j)) := by unfold cC; rw [if_pos (by omega)]
    rw [hcc]
    by_cases q2 : S 7 = 1
    · rw [q2] at hl ⊢
      rw [if_pos rfl] at hl
      rw [if_neg (show ¬ nI 1 = 0 by decide)]
      simp only [bit_0 (show msk (Fk S k) (S 1) < 2 ^ 31 by omega) (show S (16 + 12 * c + g + j) < 32 by omega)]
      cases q3 : (msk (Fk S k) (S 1)).testBit (S (16 + 12 * c + g + j)) with
      | false =>
        rw [q3] at hl
        rw [hl]
        rfl
      | true =>
        rw [q3] at hl
        rw [hl, if_neg (by decide), h, Bool.true_and]
    · rw [if_neg q2] at hl
      have hF := h8 (S 1 * k + j) (by omega)
      rw [show S 7 = 0 by omega, if_pos (show nI 0 = 0 from rfl), nI_add, if_pos ((in_n (by omega)).mpr (by omega)), nI_n (by omega), show m.1 (14 + 1) (S 1 * k + j) = _ from (f2 _ (by omega)).1]
      by_cases q3 : Fk S k j = S (16 + 12 * c + g + j)
      · rw [decide_eq_true q3] at hl
        rw [hl, if_pos (by rw [← q3]; rfl), h, Bool.true_and]
      · rw [decide_eq_false q3] at hl
        rw [hl, if_neg (by rw [nI_eq (by omega) (by omega)]; exact fun z => q3 z.symm)]
        rfl
theorem ro_like_sp {S V : Nat → Nat} {m : rn_Mem} {k c g nf : Nat} (hnf : 10 < nf) (hw : WF S) (hc : cSt S V 3 m) (h9 : S 9 = 1) (h11 : S 11 = 1) (hk : k < S 2) (hc4 : c < S 1) (hg : g + S 1 ≤ S (12 + c)) : ro_like nf 14 4 5 (nI c) (nI g) (nI (S 1 * k)) m = some (if alf (lkj S k c g) (S 1) 0 = true then 1 else 0, m) := by
  obtain ⟨h1, h2, h3, h4, h5, h6, h7, h8⟩ := WF_row hw h11
  obtain ⟨e1, _⟩ := hc.1.2 (S11_1 hw h11)
  obtain ⟨f1, f2, f3⟩ := hc.2.2.2.2 h11
  have hkn := kn (n := S 1) hk
  have a := ro_like_l6_sp (n := S 1) (b := S 1 * k) (F := Fk S k) (a3 := nI c) (a4 := nI g) h2 (by omega) e1 (fun i hi => h8 _ (by omega)) (fun i hi => (f2 _ (by omega)).1) (S 1) 0 nf (by omega) (by omega)
  have b := ro_like_l41_sp hw hc h9 h11 hk hc4 hg (S 1) 0 nf (by omega) (by omega)
  unfold ro_like
  rw [show nI (msk (Fk S k) 0) = 0 from rfl, show nI 0 = 0 from rfl] at a
  rw [show nI 0 = 0 from rfl] at b
  rw [a]
  simp only [Option.bind_some]
  rw [b]
  simp only [Option.bind_some]
  split
  · rename_i q
    by_cases g : alf (lkj S k c g) (S 1) 0 = true
    · rw [if_pos g] at q; cases q
    · rw [if_neg g] at q ⊢
      cases q
      rfl
  · rename_i q
    by_cases g : alf (lkj S k c g) (S 1) 0 = true
    · rw [if_pos g] at q ⊢
      cases q
      rfl
    · rw [if_neg g] at q; cases q
/-- the tricks of a row that a chair wins against its heap -/
def flr (S : Nat → Nat) (c : Nat) : Nat → Nat → Nat → Option Nat
  | 0, _, w => some w
  | r + 1, k, w => if Sw S k = c then (if w < S (12 + c) / S 1 ∧ alf (lkj S k c (S 1 * w)) (S 1) 0 = true then flr S c r (k + 1) (w + 1) else none) else flr S c r (k + 1) w
theorem heap_won {S : Nat → Nat} (wt : WT S) (h9 : S 9 = 1) {c : Nat} (hc : c < S 1) : S (12 + c) = S 1 * (S (12 + c) / S 1) := by
  rw [Nat.mul_comm]
  exact (wt.2 h9).1 c hc
def flO (o : Option Nat) (m : rn_Mem) : (Int32 × rn_Mem) ⊕ (Int32 × rn_Mem) := match o with
  | none => .inl (0, m)
  | some w => .inr (nI w, m)
theorem ro_fills_l6_sp {S V : Nat → Nat} {m : rn_Mem} {c : Nat} (hw : WF S) (hc : cSt S V 3 m) (h9 : S 9 = 1) (h11 : S 11 = 1) (hc4 : c < S 1) : ∀ (r k w nf : Nat), k + r = S 2 → r + 20 < nf → w ≤ k → ro_fills_l6 14 4 5 (nI c) nf (nI w) (nI k) m = some (flO (flr S c r k w) m) := by
  obtain ⟨h1, h2, h3, h4, h5, h6, h7, h8⟩ := WF_row hw h11
  obtain ⟨wg, wt, wc, wr⟩ := WF_1 hw (S11_1 hw h11)
  obtain ⟨e1, e2, _⟩ := hc.1.2 (S11_1 hw h11)
  obtain ⟨f1, f2, f3⟩ := hc.2.2.2.2 h11
  obtain ⟨d1, _⟩ := hc.2.1.2 h9
  have hH := hp_le wg wt h9 hc4
  have hwn := heap_won wt h9 hc4
  have hwb : S (12 + c) / S 1 ≤ S (12 + c) := Nat.div_le_self _ _
  intro r
  induction r with
  | zero =>
    intro k w nf e hnf hwk
    obtain ⟨nf, rfl⟩ : ∃ e, nf = e + 1 := ⟨nf - 1, by omega⟩
    unfold ro_fills_l6
    rw [show m.1 4 2 = _ from e2, if_neg (by rw [nI_ltI (by omega) (by omega)]; omega)]
    rfl
  | succ r ih =>
    intro k w nf e hnf hwk
    obtain ⟨nf, rfl⟩ : ∃ e, nf = e + 1 := ⟨nf - 1, by omega⟩
    have hkn := kn (n := S 1) (show k < S 2 by omega)
    have hSw := Sw_lt (S := S) (k := k) h1
    have hwin : m.1 (14 + 3) (S 1 * k) = nI (Sw S k) := by
      have q := (f2 (S 1 * k) (by omega)).2.2
      rw [Nat.mul_div_cancel_left _ (by omega)] at q
      exact q
    unfold ro_fills_l6
    rw [show m.1 4 2 = _ from e2, show m.1 4 1 = _ from e1, if_pos (by rw [nI_ltI (by omega) (by omega)]; omega)]
    simp only [Option.bind_some, pk_mul]
    rw [Nat.mul_comm k (S 1), if_pos ((in_n (by omega)).mpr (by omega)), nI_n (by omega), hwin, flr]
    by_cases q1 : Sw S k = c
    · rw [if_pos (by rw [q1]), if_pos q1, if_pos ((in_n (by omega)).mpr (by omega)), nI_n (by omega), show m.1 (5 + 2) c = _ from (d1 c hc4).2]
      by_cases q2 : w < S (12 + c) / S 1
      · have hww := kn (n := S 1) q2
        rw [if_pos ((nI_ltI (by omega) (by omega)).mpr q2), Nat.mul_comm w (S 1), ro_like_sp (by omega) hw hc h9 h11 (by omega) hc4 (by omega)]
        simp only [Option.bind_some, nI_1]
        by_cases q3 : alf (lkj S k c (S 1 * w)) (S 1) 0 = true
        · rw [if_neg (b10 q3), if_pos ⟨q2, q3⟩]
          exact ih (k + 1) (w + 1) nf (by omega) (by omega) (by omega)
        · rw [if_pos (b00 q3), if_neg (fun z => q3 z.2)]
          rfl
      · rw [if_neg (mt (nI_ltI (by omega) (by omega)).mp q2), if_neg (fun z => q2 z.1)]
        rfl
    · rw [if_neg (by rw [nI_eq (by omega) (by omega)]; exact q1), if_neg q1]
      simp only [nI_1]
      exact ih (k + 1) w nf (by omega) (by omega) (by omega)
def flok (S : Nat → Nat) (c : Nat) : Bool := decide (flr S c (S 2) 0 0 = some (S (12 + c) / S 1))
theorem ro_fills_sp {S V : Nat → Nat} {m : rn_Mem} {c nf : Nat} (hnf : 40 < nf) (hw : WF S) (hc : cSt S V 3 m) (h9 : S 9 = 1) (h11 : S 11 = 1) (hc4 : c < S 1) : ro_fills nf 14 4 5 (nI c) m = some (if flok S c = true then 1 else 0, m) := by
  obtain ⟨h1, h2, h3, h4, h5, h6, h7, h8⟩ := WF_row hw h11
  obtain ⟨wg, wt, wc, wr⟩ := WF_1 hw (S11_1 hw h11)
  obtain ⟨d1, _⟩ := hc.2.1.2 h9
  have hH := hp_le wg wt h9 hc4
  have hwb : S (12 + c) / S 1 ≤ S (12 + c) := Nat.div_le_self _ _
  have a := ro_fills_l6_sp hw hc h9 h11 hc4 (S 2) 0 0 nf (by omega) (by omega) (by omega)
  rw [show nI 0 = 0 from rfl] at a
  have hle : ∀ r k w x, flr S c r k w = some x → x ≤ w + r := by
    intro r
    induction r with
    | zero =>
      intro k w x h
      cases h
      omega
    | succ r ih =>
      intro k w x h
      rw [flr] at h
      split at h
      · split at h
        · have := ih _ _ _ h; omega
        · cases h
      · have := ih _ _ _ h; omega
  unfold ro_fills flok
  rw [a]
  simp only [Option.bind_some]
  cases q : flr S c (S 2) 0 0 with
  | none =>
    rw [if_neg (by simp only [decide_eq_true_eq]; exact fun z => by cases z)]
    rfl
  | some w =>
    have hwl := hle _ _ _ _ q
    unfold flO
    simp only []
    rw [if_pos ((in_n (by omega)).mpr (by omega)), nI_n (by omega), show m.1 (5 + 2) c = _ from (d1 c hc4).2]
    by_cases g : w = S (12 + c) / S 1
    · rw [if_pos (by rw [g]), if_pos (by rw [g]; exact decide_eq_true rfl)]
    · rw [if_neg (by rw [nI_eq (by omega) (by omega)]; exact g), if_neg (by simp only [decide_eq_true_eq]; exact fun z => g (by cases z; rfl))]
theorem lt_leaves_l31_sp {S V : Nat → Nat} {m : rn_Mem} (hw : WF S) (hc : cSt S V 3 m) (h9 : S 9 = 1) (h11 : S 11 = 1) : ∀ (r c nf : Nat), c + r = S 1 → r + 50 < nf → lt_leaves_l31 nf (nI c) m = some (match ffl (flok S) r c with | some j => .inl (nI j, m) | none => .inr m) := by
  obtain ⟨h1, h2, h3, h4, h5, h6, h7, h8⟩ := WF_row hw h11
  obtain ⟨e1, _⟩ := hc.1.2 (S11_1 hw h11)
  intro r
  induction r with
  | zero =>
    intro c nf e hnf
    obtain ⟨nf, rfl⟩ : ∃ e, nf = e + 1 := ⟨nf - 1, by omega⟩
    unfold lt_leaves_l31
    rw [show m.1 4 1 = _ from e1, if_neg (by rw [nI_ltI (by omega) (by omega)]; omega)]
    rfl
  | succ r ih =>
    intro c nf e hnf
    obtain ⟨nf, rfl⟩ : ∃ e, nf = e + 1 := ⟨nf - 1, by omega⟩
    unfold lt_leaves_l31
    rw [show m.1 4 1 = _ from e1, if_pos (by rw [nI_ltI (by omega) (by omega)]; omega), ro_fills_sp (by omega) hw hc h9 h11 (by omega)]
    simp only [Option.bind_some, nI_1]
    rw [ffl]
    by_cases q : flok S c = true
    · rw [if_neg (b10 q), if_pos q]
      exact ih (c + 1) nf (by omega) (by omega)
    · rw [if_pos (b00 q), if_neg q]
/-! the reference's -/
theorem isAlike_l46_sp {S : Nat → Nat} {m : rn_Mem} {k X : Nat} {a2 a3 a5 a6 : Int32} (hn : 1 ≤ S 1) (hn4 : S 1 ≤ 4) (hk : S 1 * k + S 1 ≤ 12) (hm : ∀ i, i < S 1 → m.1 141 (S 1 * k + i) = nI (Fk S k i)) : ∀ (r j nf : Nat) (b : Bool), j + r = S 1 → r < nf → mo_isAlike_l46 (nI k) a2 a3 (nI (S 1)) a5 a6 (zC X) nf (if b = true then 1 else 0) (nI j) m = some (if (b || exf (fun i => decide (nI (Fk S k i) = zC X)) r j) = true then 1 else 0, m) := by
  intro r
  induction r with
  | zero =>
    intro j nf b e hnf
    obtain ⟨nf, rfl⟩ : ∃ e, nf = e + 1 := ⟨nf - 1, by omega⟩
    unfold mo_isAlike_l46
    rw [if_neg (by rw [nI_ltI (by omega) (by omega)]; omega), exf, Bool.or_false]
  | succ r ih =>
    intro j nf b e hnf
    obtain ⟨nf, rfl⟩ : ∃ e, nf = e + 1 := ⟨nf - 1, by omega⟩
    unfold mo_isAlike_l46
    rw [if_pos (by rw [nI_ltI (by omega) (by omega)]; omega), exf]
    cases b with
    | true =>
      rw [if_neg (b10 rfl)]
      simp only [Option.bind_some, nI_1]
      have h := ih (j + 1) nf true (by omega) (by omega)
      rw [if_pos rfl, Bool.true_or] at h
      rw [h, Bool.true_or]
    | false =>
      rw [if_pos (b00 (by decide)), pk_mul, nI_add, if_pos ((in_n (by omega)).mpr (by omega)), nI_n (by omega), hm j (by omega), Bool.false_or]
      by_cases q : nI (Fk S k j) = zC X
      · rw [if_pos q]
        simp only [Option.bind_some, nI_1]
        have h := ih (j + 1) nf true (by omega) (by omega)
        rw [if_pos rfl, Bool.true_or] at h
        rw [h, decide_eq_true q, Bool.true_or]
      · rw [if_neg q]
        simp only [Option.bind_some, nI_1]
        have h := ih (j + 1) nf false (by omega) (by omega)
        rw [if_neg (by decide), Bool.false_or] at h
        rw [h, decide_eq_false q, Bool.false_or]
theorem isAlike_l14_sp {S : Nat → Nat} {m : rn_Mem} {k c g : Nat} (hw : WF S) (hz : zOK S (m.1 116)) (hR : RT S m) (h9 : S 9 = 1) (h11 : S 11 = 1) (hk : k < S 2) (hc4 : c < S 1) (hg : g + S 1 ≤ S (12 + c)) : ∀ (r j nf : Nat) (b : Bool), j + r = S 1 → r + 10 < nf → mo_isAlike_l14 (nI k) (nI c) (nI g) (nI (S 1)) nf (if b = true then 1 else 0) (nI j) m = some (if (b && alf (lkj S k c g) r j) = true then 1 else 0, m) := by
  obtain ⟨h1, h2, h3, h4, h5, h6, h7, h8⟩ := WF_row hw h11
  obtain ⟨wg, wt, wc, wr⟩ := WF_1 hw (S11_1 hw h11)
  have hH := hp_le wg wt h9 hc4
  have h7k : S 7 ≤ 1 := wg.2.2.2.2.2.2.2.2.2.1
  have hkn := kn (n := S 1) hk
  have z7 : m.1 116 7 = nI (S 7) := zOK_at hz (by omega) (by omega) (by omega) (by omega)
  intro r
  induction r with
  | zero =>
    intro j nf b e hnf
    obtain ⟨nf, rfl⟩ : ∃ e, nf = e + 1 := ⟨nf - 1, by omega⟩
    unfold mo_isAlike_l14
    rw [if_neg (by rw [nI_ltI (by omega) (by omega)]; omega), alf, Bool.and_true]
  | succ r ih =>
    intro j nf b e hnf
    obtain ⟨nf, rfl⟩ : ∃ e, nf = e + 1 := ⟨nf - 1, by omega⟩
    have hX := (wt.2 h9).2.2.1 c (g + j) hc4 (by omega)
    rw [show 16 + 12 * c + (g + j) = 16 + 12 * c + g + j by omega] at hX
    have i46 := isAlike_l46_sp (S := S) (m := m) (k := k) (X := S (16 + 12 * c + g + j)) (a2 := nI c) (a3 := nI g) (a5 := if b = true then 1 else 0) (a6 := nI j) (by omega) h2 (by omega) (fun i hi => hR.1 _ (by omega)) (S 1) 0 nf false (by omega) (by omega)
    rw [if_neg (show ¬ false = true by decide), show nI 0 = 0 from rfl, Bool.false_or] at i46
    unfold mo_isAlike_l14
    rw [if_pos (by rw [nI_ltI (by omega) (by omega)]; omega), k16, k12, pk_mul, nI_add, nI_add, nI_add, if_pos ((in_n (by omega)).mpr (by omega)), nI_n (by omega), hz.2.2.2 _ (by omega) (by omega)]
    simp only [Option.bind_some]
    rw [i46]
    simp only [Option.bind_some]
    rw [alf]
    cases b with
    | false =>
      rw [if_pos (b00 (by decide))]
      simp only [Option.bind_some, nI_1]
      have h := ih (j + 1) nf false (by omega) (by omega)
      rw [if_neg (by decide)] at h
      rw [h]
      rfl
    | true =>
      rw [if_neg (b10 rfl)]
      have fin : ∀ x : Bool, (if x = true then (some (1 : Int32)) else some 0).bind (fun x26 => mo_isAlike_l14 (nI k) (nI c) (nI g) (nI (S 1)) nf x26 (nI j + 1) m) = some (if (x && alf (lkj S k c g) r (j + 1)) = true then 1 else 0, m) := by
        intro x
        have h := ih (j + 1) nf x (by omega) (by omega)
        rw [← h, nI_1]
        cases x <;> rfl
      have hl : (if zC (S (16 + 12 * c + g + j)) < 0 then some (1 : Int32) else if m.1 116 7 = 1 then if (if exf (fun i => decide (nI (Fk S k i) = zC (S (16 + 12 * c + g + j)))) (S 1) 0 = true then (1 : Int32) else 0) = 0 then some 0 else some 1 else if rn_in (nI (S 1) * nI k + nI j) 12 = true then if m.1 141 (nI (S 1) * nI k + nI j).toNatClampNeg = zC (S (16 + 12 * c + g + j)) then some 1 else some 0 else none) = if lkj S k c g j = true then some 1 else some 0 := by
        by_cases q1 : 16 ≤ S (16 + 12 * c + g + j)
        · rw [if_pos (zC_lt.mpr q1), if_pos (show lkj S k c g j = true by unfold lkj; rw [decide_eq_true q1]; rfl)]
        rw [if_neg (mt zC_lt.mp q1)]
        have hl : lkj S k c g j = (if S 7 = 1 then (msk (Fk S k) (S 1)).testBit (S (16 + 12 * c + g + j)) else decide (Fk S k j = S (16 + 12 * c + g + j))) := by
          unfold lkj
          rw [decide_eq_false q1, Bool.false_or]
        have hcc : zC (S (16 + 12 * c + g + j)) = nI (S (16 + 12 * c + g + j)) := by unfold zC; rw [if_pos (by omega)]
        rw [hcc, z7]
        have hF : ∀ i, i < S 1 → Fk S k i < 16 := fun i hi => h8 _ (by omega)
        by_cases q2 : S 7 = 1
        · rw [if_pos q2] at hl
          rw [if_pos (by rw [q2]; rfl)]
          have he : exf (fun i => decide (nI (Fk S k i) = nI (S (16 + 12 * c + g + j)))) (S 1) 0 = true ↔ lkj S k c g j = true := by
            rw [hl, msk_bit, exf_iff]
            constructor
            · rintro ⟨i, p1, p2, p3⟩
              have := hF i (by omega)
              exact ⟨i, by omega, (nI_eq (by omega) (by omega)).mp (of_decide_eq_true p3)⟩
            · rintro ⟨i, p1, p2⟩
              exact ⟨i, by omega, by omega, decide_eq_true (by rw [p2])⟩
          by_cases q3 : lkj S k c g j = true
          · rw [if_neg (b10 (he.mpr q3)), if_pos q3]
          · rw [if_pos (b00 (mt he.mp q3)), if_neg q3]
        · rw [if_neg q2] at hl
          rw [if_neg (by rw [k1, nI_eq (by omega) (by omega)]; exact q2), pk_mul, nI_add, if_pos ((in_n (by omega)).mpr (by omega)), nI_n (by omega), hR.1 _ (by omega)]
          have := hF j (by omega)
          by_cases q3 : Fk S k j = S (16 + 12 * c + g + j)
          · rw [decide_eq_true q3] at hl
            rw [if_pos (by rw [← q3]; rfl), if_pos hl]
          · rw [decide_eq_false q3] at hl
            rw [if_neg (by rw [nI_eq (show S (89 + (S 1 * k + j)) < 2 ^ 31 from by have : S (89 + (S 1 * k + j)) < 16 := this; omega) (by omega)]; exact q3), if_neg (by rw [hl]; decide)]
      rw [hl]
      exact fin _
theorem isAlike_sp {S : Nat → Nat} {m : rn_Mem} {k c g nf : Nat} (hnf : 20 < nf) (hw : WF S) (hz : zOK S (m.1 116)) (hR : RT S m) (h9 : S 9 = 1) (h11 : S 11 = 1) (hk : k < S 2) (hc4 : c < S 1) (hg : g + S 1 ≤ S (12 + c)) : mo_isAlike nf (nI k) (nI c) (nI g) m = some (if alf (lkj S k c g) (S 1) 0 = true then 1 else 0, m) := by
  have h2 := (WF_row hw h11).2.1
  unfold mo_isAlike
  simp only [Option.bind_some]
  have h := isAlike_l14_sp hw hz hR h9 h11 hk hc4 hg (S 1) 0 nf true (by omega) (by omega)
  rw [if_pos rfl, Bool.true_and, show nI 0 = 0 from rfl] at h
  rw [zOK_at hz (k := 1) (by omega) (by omega) (by omega) (by omega), h]
  simp only [Option.bind_some]
  rw [if_pos (by split <;> simp)]
theorem leaves_l46_0 {S : Nat → Nat} {m : rn_Mem} {c : Nat} (hw : WF S) (hz : zOK S (m.1 116)) (hR : RT S m) (h11 : S 11 = 1) : ∀ (r k nf : Nat) (x : Int32), k + r = S 2 → r < nf → ∃ y, mo_leaves_l46 (nI c) nf x 0 (nI k) m = some (y, 0, m) := by
  obtain ⟨h1, h2, h3, h4, h5, h6, h7, h8⟩ := WF_row hw h11
  intro r
  induction r with
  | zero =>
    intro k nf x e hnf
    obtain ⟨nf, rfl⟩ : ∃ e, nf = e + 1 := ⟨nf - 1, by omega⟩
    refine ⟨x, ?_⟩
    unfold mo_leaves_l46
    rw [zOK_at hz (k := 2) (by omega) (by omega) (by omega) (by omega), if_neg (by rw [nI_ltI (by omega) (by omega)]; omega)]
  | succ r ih =>
    intro k nf x e hnf
    obtain ⟨nf, rfl⟩ : ∃ e, nf = e + 1 := ⟨nf - 1, by omega⟩
    unfold mo_leaves_l46
    rw [zOK_at hz (k := 2) (by omega) (by omega) (by omega) (by omega), if_pos (by rw [nI_ltI (by omega) (by omega)]; omega), if_pos ((in_n (by omega)).mpr (by omega))]
    by_cases q : m.1 140 (nI k).toNatClampNeg = nI c
    · obtain ⟨y, hy⟩ := ih (k + 1) nf (x + m.1 116 1) (by omega) (by omega)
      refine ⟨y, ?_⟩
      rw [if_pos q, if_pos rfl]
      simp only [Option.bind_some, nI_1]
      exact hy
    · obtain ⟨y, hy⟩ := ih (k + 1) nf x (by omega) (by omega)
      refine ⟨y, ?_⟩
      rw [if_neg q]
      simp only [Option.bind_some, nI_1]
      exact hy
theorem leaves_l46_1 {S : Nat → Nat} {m : rn_Mem} {c : Nat} (hw : WF S) (hz : zOK S (m.1 116)) (hR : RT S m) (h9 : S 9 = 1) (h11 : S 11 = 1) (hc4 : c < S 1) : ∀ (r k w nf : Nat), k + r = S 2 → r + 30 < nf → w ≤ k → ∃ y, mo_leaves_l46 (nI c) nf (nI (S 1 * w)) 1 (nI k) m = some (match flr S c r k w with | some w2 => (nI (S 1 * w2), 1, m) | none => (y, 0, m)) := by
  obtain ⟨h1, h2, h3, h4, h5, h6, h7, h8⟩ := WF_row hw h11
  obtain ⟨wg, wt, wc, wr⟩ := WF_1 hw (S11_1 hw h11)
  have hH := hp_le wg wt h9 hc4
  have hwn := heap_won wt h9 hc4
  intro r
  induction r with
  | zero =>
    intro k w nf e hnf hwk
    obtain ⟨nf, rfl⟩ : ∃ e, nf = e + 1 := ⟨nf - 1, by omega⟩
    refine ⟨0, ?_⟩
    unfold mo_leaves_l46
    rw [zOK_at hz (k := 2) (by omega) (by omega) (by omega) (by omega), if_neg (by rw [nI_ltI (by omega) (by omega)]; omega)]
    rfl
  | succ r ih =>
    intro k w nf e hnf hwk
    obtain ⟨nf, rfl⟩ : ∃ e, nf = e + 1 := ⟨nf - 1, by omega⟩
    have hSw := Sw_lt (S := S) (k := k) h1
    have hwb : S 1 * w ≤ S 1 * k := Nat.mul_le_mul_left _ hwk
    have hkb := kn (n := S 1) (show k < S 2 by omega)
    unfold mo_leaves_l46
    rw [zOK_at hz (k := 2) (by omega) (by omega) (by omega) (by omega), if_pos (by rw [nI_ltI (by omega) (by omega)]; omega), if_pos ((in_n (by omega)).mpr (by omega)), nI_n (by omega), hR.2.2 k (by omega), flr]
    by_cases q1 : Sw S k = c
    · rw [if_pos (by rw [q1]), if_pos q1, if_neg (by decide), show (12 : Int32) + nI c = nI (12 + c) from nI_add 12 c, if_pos ((in_n (by omega)).mpr (by omega)), nI_n (by omega), zOK_at hz (k := 12 + c) (by omega) (by omega) (by omega) (by omega)]
      by_cases q2 : w < S (12 + c) / S 1
      · have hww := kn (n := S 1) q2
        rw [if_pos ((nI_ltI (by omega) (by omega)).mpr (by omega)), isAlike_sp (by omega) hw hz hR h9 h11 (by omega) hc4 (by omega)]
        simp only [Option.bind_some]
        by_cases q3 : alf (lkj S k c (S 1 * w)) (S 1) 0 = true
        · obtain ⟨y, hy⟩ := ih (k + 1) (w + 1) nf (by omega) (by omega) (by omega)
          refine ⟨y, ?_⟩
          rw [if_neg (b10 q3), if_pos ⟨q2, q3⟩]
          simp only [Option.bind_some]
          rw [zOK_at hz (k := 1) (by omega) (by omega) (by omega) (by omega), nI_add, nI_1, show S 1 * w + S 1 = S 1 * (w + 1) by rw [Nat.mul_add, Nat.mul_one]]
          exact hy
        · obtain ⟨y, hy⟩ := leaves_l46_0 (c := c) hw hz hR h11 r (k + 1) nf (nI (S 1 * w) + m.1 116 1) (by omega) (by omega)
          refine ⟨y, ?_⟩
          rw [if_pos (b00 q3), if_neg (fun z => q3 z.2)]
          simp only [Option.bind_some, nI_1]
          exact hy
      · have hle : S 1 * (S (12 + c) / S 1) ≤ S 1 * w := Nat.mul_le_mul_left _ (by omega)
        obtain ⟨y, hy⟩ := leaves_l46_0 (c := c) hw hz hR h11 r (k + 1) nf (nI (S 1 * w) + m.1 116 1) (by omega) (by omega)
        refine ⟨y, ?_⟩
        rw [if_neg (by rw [nI_ltI (by omega) (by omega)]; omega), if_neg (fun z => q2 z.1)]
        simp only [Option.bind_some, nI_1]
        exact hy
    · obtain ⟨y, hy⟩ := ih (k + 1) w nf (by omega) (by omega) (by omega)
      refine ⟨y, ?_⟩
      rw [if_neg (by rw [nI_eq (by omega) (by omega)]; exact q1), if_neg q1]
      simp only [Option.bind_some, nI_1]
      exact hy
theorem mo_leaves_l29_sp {S : Nat → Nat} {m : rn_Mem} (hw : WF S) (hz : zOK S (m.1 116)) (hR : RT S m) (h9 : S 9 = 1) (h11 : S 11 = 1) : ∀ (r c nf : Nat), c + r = S 1 → r + 60 < nf → mo_leaves_l29 nf (nI c) m = some (match ffl (flok S) r c with | some j => .inl (nI j, m) | none => .inr m) := by
  obtain ⟨h1, h2, h3, h4, h5, h6, h7, h8⟩ := WF_row hw h11
  obtain ⟨wg, wt, wc, wr⟩ := WF_1 hw (S11_1 hw h11)
  intro r
  induction r with
  | zero =>
    intro c nf e hnf
    obtain ⟨nf, rfl⟩ : ∃ e, nf = e + 1 := ⟨nf - 1, by omega⟩
    unfold mo_leaves_l29
    rw [zOK_at hz (k := 1) (by omega) (by omega) (by omega) (by omega), if_neg (by rw [nI_ltI (by omega) (by omega)]; omega)]
    rfl
  | succ r ih =>
    intro c nf e hnf
    obtain ⟨nf, rfl⟩ : ∃ e, nf = e + 1 := ⟨nf - 1, by omega⟩
    have hc4 : c < S 1 := by omega
    have hH := hp_le wg wt h9 hc4
    have hwn := heap_won wt h9 hc4
    obtain ⟨y, hy⟩ := leaves_l46_1 hw hz hR h9 h11 hc4 (S 2) 0 0 nf (by omega) (by omega) (by omega)
    rw [show S 1 * 0 = 0 from Nat.mul_zero _, show nI 0 = 0 from rfl] at hy
    unfold mo_leaves_l29
    rw [zOK_at hz (k := 1) (by omega) (by omega) (by omega) (by omega), if_pos (by rw [nI_ltI (by omega) (by omega)]; omega), hy, ffl]
    have hle : ∀ r k w x, flr S c r k w = some x → x ≤ w + r := by
      intro r
      induction r with
      | zero =>
        intro k w x h
        cases h
        omega
      | succ r ih =>
        intro k w x h
        rw [flr] at h
        split at h
        · split at h
          · have := ih _ _ _ h; omega
          · cases h
        · have := ih _ _ _ h; omega
    have hfl : flok S c = decide (flr S c (S 2) 0 0 = some (S (12 + c) / S 1)) := rfl
    cases q : flr S c (S 2) 0 0 with
    | none =>
      rw [q, decide_eq_false (fun z => by cases z)] at hfl
      rw [hfl, if_neg (by decide)]
      simp only [Option.bind_some]
      rw [if_pos trivial]
    | some w =>
      have hwl := hle _ _ _ _ q
      have hw12 : S 1 * w ≤ S 1 * S 2 := Nat.mul_le_mul_left _ (by omega)
      rw [q] at hfl
      simp only [Option.bind_some]
      rw [if_neg (by decide), show (12 : Int32) + nI c = nI (12 + c) from nI_add 12 c, if_pos ((in_n (by omega)).mpr (by omega)), nI_n (by omega), zOK_at hz (k := 12 + c) (by omega) (by omega) (by omega) (by omega), nI_1]
      by_cases g : w = S (12 + c) / S 1
      · rw [decide_eq_true (by rw [g])] at hfl
        rw [hfl, if_pos rfl, if_pos (by rw [g, ← hwn])]
        exact ih (c + 1) nf (by omega) (by omega)
      · rw [decide_eq_false (fun z => g (by cases z; rfl))] at hfl
        rw [hfl, if_neg (show ¬ nI (S 1 * w) = nI (S (12 + c)) by
          rw [nI_eq (by omega) (by omega)]
          intro z
          rw [hwn] at z
          exact g (Nat.eq_of_mul_eq_mul_left (by omega) z)), if_neg (show ¬ false = true by decide)]
theorem C_leaves (S V : Nat → Nat) (m : rn_Mem) (hw : WF S) (hc : cSt S V 3 m) (n : Nat) (hn : 200 < n) : ∃ r, lt_leaves n m = some (r, m) ∧ ∀ m1, zOK S (m1.1 116) → ∃ m2, mo_leaves n m1 = some (r, m2) ∧ Kr Ptr m1 m2 := by
  have c40 : m.1 14 0 = nI (S 11) := hc.2.2.2.1
  have c20 : m.1 5 0 = nI (S 9) := hc.2.1.1
  rcases S11_01 hw with h11 | h11
  · refine ⟨-2, ?_, fun m1 hz => ⟨m1, ?_, Kr.rf⟩⟩
    · unfold lt_leaves
      rw [if_pos (by rw [c40, h11]; rfl)]
    · unfold mo_leaves
      rw [if_pos (by rw [zOK_at hz (by omega) (by omega) (by omega) (by omega), h11]; rfl)]
  rcases S9_01 hw with h9 | h9
  · refine ⟨-2, ?_, fun m1 hz => ⟨m1, ?_, Kr.rf⟩⟩
    · unfold lt_leaves
      rw [if_neg (by rw [c40, h11]; decide), if_pos (by rw [c20, h9]; rfl)]
    · unfold mo_leaves
      rw [if_neg (by rw [zOK_at hz (by omega) (by omega) (by omega) (by omega), h11]; decide), if_pos (by rw [zOK_at hz (by omega) (by omega) (by omega) (by omega), h9]; rfl)]
  obtain ⟨h1, h2, h3, h4, h5, h6, h7, h8⟩ := WF_row hw h11
  obtain ⟨e1, e2, e3, e4, e5, e6, e7, e8⟩ := hc.1.2 (S11_1 hw h11)
  obtain ⟨f1, _⟩ := hc.2.2.2.2 h11
  have a := lt_leaves_l31_sp hw hc h9 h11 (S 1) 0 n (by omega) (by omega)
  rw [show nI 0 = 0 from rfl] at a
  have hL : lt_leaves n m = some (match ffl (flok S) (S 1) 0 with | some j => nI j | none => if 4 ≤ S 8 ∨ S 8 = S 88 then -4 else 4, m) := by
    unfold lt_leaves
    rw [if_neg (by rw [c40, h11]; decide), if_neg (by rw [c20, h9]; decide), a]
    cases q : ffl (flok S) (S 1) 0 with
    | some j => rfl
    | none =>
      simp only [Option.bind_some]
      rw [show m.1 4 8 = _ from e8, show m.1 14 1 = _ from f1]
      by_cases q1 : 4 ≤ S 8
      · rw [if_pos (cT_lt.mpr q1), if_pos (Or.inl q1)]
      · rw [if_neg (mt cT_lt.mp q1)]
        by_cases q2 : S 8 = S 88
        · rw [if_pos (((eq_nc (by omega)).mpr q2.symm).symm), if_pos (Or.inr q2)]
        · rw [if_neg (fun z => q2 ((eq_nc (by omega)).mp z.symm).symm), if_neg (by omega)]
  refine ⟨_, hL, fun m1 hz => ?_⟩
  obtain ⟨m2, t1, t2, t5⟩ := takeRow_sp (nf := n) (by omega) hw h11 hz
  have e116 : m2.1 116 = m1.1 116 := (t5 116 (by unfold Ptr; omega)).1
  have hz2 : zOK S (m2.1 116) := by rw [e116]; exact hz
  have b := mo_leaves_l29_sp hw hz2 t2 h9 h11 (S 1) 0 n (by omega) (by omega)
  rw [show nI 0 = 0 from rfl] at b
  refine ⟨m2, ?_, t5⟩
  unfold mo_leaves
  rw [if_neg (by rw [zOK_at hz (by omega) (by omega) (by omega) (by omega), h11]; decide), if_neg (by rw [zOK_at hz (by omega) (by omega) (by omega) (by omega), h9]; decide), t1]
  simp only [Option.bind_some]
  rw [b]
  cases q : ffl (flok S) (S 1) 0 with
  | some j => rfl
  | none =>
    simp only [Option.bind_some]
    rw [hz2.2.2.1, zOK_at hz2 (k := 88) (by omega) (by omega) (by omega) (by omega)]
    by_cases q1 : 4 ≤ S 8
    · rw [if_pos (zT_lt.mpr q1), if_pos (Or.inl q1)]
    · rw [if_neg (mt zT_lt.mp q1)]
      by_cases q2 : S 8 = S 88
      · rw [if_pos (((eq_nT (by omega)).mpr q2.symm).symm), if_pos (Or.inr q2)]
      · rw [if_neg (fun z => q2 ((eq_nT (by omega)).mp z.symm).symm), if_neg (by omega)]
