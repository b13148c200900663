/-! THE CALLS OF THE SEARCH: turned -/
theorem AGL_T {S : Nat → Nat} {tc : Nat} : AGL S (STn S tc) := ⟨STn_o (by omega), STn_o (by omega), STn_o (by omega), STn_o (by omega), STn_o (by omega), STn_o (by omega), STn_o (by omega), fun c hc => STn_o (by omega), fun i hi => STn_o (Or.inr hi)⟩
theorem AGL_s {S T : Nat → Nat} (h : AGL S T) : AGL T S := ⟨h.1.symm, h.2.1.symm, h.2.2.1.symm, h.2.2.2.1.symm, h.2.2.2.2.1.symm, h.2.2.2.2.2.1.symm, h.2.2.2.2.2.2.1.symm, fun c hc => (h.2.2.2.2.2.2.2.1 c hc).symm, fun i hi => (h.2.2.2.2.2.2.2.2 i hi).symm⟩
theorem xa_turn {S : Nat → Nat} {tc r r' : Nat} (wg : WG S) (wt : WT S) (h9 : S 9 = 1) (h : ∀ p, p < 48 → unS (STn S tc) p = true → od (uc S) r' (fb_ct (unS (STn S tc)) p) = od (uc S) r (fb_ct (unS S) (phT S tc p))) : XA S (XT S tc (XF S r)) (XF (STn S tc) r') := by
  intro c i j hc hi hj
  have w2 := wg.2.1
  obtain ⟨k1, k2, k3, k4⟩ := XF_k wg wt h9 hc hi hj
  have hph : phT S tc (12 * c + S 1 * i + j) = 12 * c + S 1 * (if c = tc ∧ c < 4 then mmS S c - 1 - i else i) + j := by
    unfold phT
    rw [k3, k4]
    rcases sgm_k (tc := tc) wg.1 w2 hi hj with e | e
    · rw [e]; omega
    · omega
  have hT := STn_p (tc := tc) k2 k1
  unfold XT XF
  rw [STn_o (i := 1) (by omega), hT, uc_T wg wt h9, ms_T wg wt h9, ← hph]
  by_cases y : S (16 + phT S tc (12 * c + S 1 * i + j)) < 16
  · rw [if_pos y, if_pos y]
  · rw [if_neg y, if_neg y]
    congr 1
    refine h _ k2 ?_
    unfold unS
    rw [vl_T wg, k1, hT, decide_eq_true (by omega)]
    rfl
theorem tu_perm {S : Nat → Nat} {tc : Nat} (wg : WG S) (wt : WT S) (h9 : S 9 = 1) : (∀ r, r < fac (uc S) → ∃ r', r' < fac (uc S) ∧ XA S (XT S tc (XF S r)) (XF (STn S tc) r')) ∧ ∀ r', r' < fac (uc S) → ∃ r, r < fac (uc S) ∧ XA S (XT S tc (XF S r)) (XF (STn S tc) r') := by
  have hU : uc S < 4 := by have := (wt.2 h9).2.2.2.2; omega
  have c1 := un_48 wg wt h9
  have c2 : fb_ct (unS (STn S tc)) 48 = uc S := by
    rw [← uc_T (tc := tc) wg wt h9]
    exact un_48 (WG_T wg) (WT_T wg wt h9) (by rw [STn_o (i := 9) (by omega)]; exact h9)
  have hun : ∀ p, unS S p = true → vlS S p = true := fun p h => by unfold unS at h; rw [Bool.and_eq_true] at h; exact h.1
  have hun2 : ∀ p, unS (STn S tc) p = true → vlS S p = true := fun p h => by unfold unS at h; rw [vl_T wg, Bool.and_eq_true] at h; exact h.1
  have f12 : ∀ p, p < 48 → unS (STn S tc) p = true → phT S tc p < 48 ∧ unS S (phT S tc p) = true ∧ phT S tc (phT S tc p) = p := fun p hp h => by
    obtain ⟨a1, a2, a3, a4⟩ := ph_sp (tc := tc) wg wt h9 hp (hun2 p h)
    exact ⟨a1, by rw [← un_T wg wt h9 hp (hun2 p h)]; exact h, a3⟩
  have f21 : ∀ p, p < 48 → unS S p = true → phT S tc p < 48 ∧ unS (STn S tc) (phT S tc p) = true ∧ phT S tc (phT S tc p) = p := fun p hp h => by
    obtain ⟨a1, a2, a3, a4⟩ := ph_sp (tc := tc) wg wt h9 hp (hun p h)
    exact ⟨a1, by rw [un_T wg wt h9 a1 a2, a3]; exact h, a3⟩
  constructor
  · intro r hr
    obtain ⟨r', a1, a2⟩ := perm_ex hU hr c1 c2 f12
    exact ⟨r', a1, xa_turn wg wt h9 a2⟩
  · intro r' hr
    obtain ⟨r, a1, a2⟩ := perm_ex hU hr c2 c1 f21
    refine ⟨r, a1, xa_turn wg wt h9 fun p hp h => ?_⟩
    obtain ⟨b1, b2, b3⟩ := f12 p hp h
    have := a2 _ b1 b2
    rw [b3] at this
    exact this.symm
theorem brd_T {S : Nat → Nat} {tc : Nat} : brd (STn S tc) = brd S := by
  funext x l
  unfold brd
  rw [STn_o (i := 5) (by omega), STn_o (i := 4) (by omega)]
theorem tu_line {S : Nat → Nat} {tc r r' : Nat} {w q : Nat → Nat} (wg : WG S) (wt : WT S) (h9 : S 9 = 1) (hr : r < fac (uc S)) (hr' : r' < fac (uc S)) (hX : XA S (XT S tc (XF S r)) (XF (STn S tc) r')) : (LN (STn S tc) (XF (STn S tc) r') w q ∧ nbQ (STn S tc) (XF (STn S tc) r') w q (STn S tc 2) = 0 ∧ bkQ (STn S tc) (XF (STn S tc) r') w q (STn S tc 2) = 0) ↔ LN S (XT S tc (XF S r)) w q ∧ nbQ S (XT S tc (XF S r)) w q (S 2) = 0 ∧ bkQ S (XT S tc (XF S r)) w q (S 2) = 0 := by
  have hA := AGL_T (S := S) (tc := tc)
  have hH := XT_HZ (tc := tc) (XF_HZ wg wt h9 hr)
  have hH' := XF_HZ (WG_T (tc := tc) wg) (WT_T (tc := tc) wg wt h9) (by rw [STn_o (i := 9) (by omega)]; exact h9) (show r' < fac (uc (STn S tc)) by rw [uc_T wg wt h9]; exact hr')
  have e2 : STn S tc 2 = S 2 := STn_o (by omega)
  rw [LN_T hA hX wg, e2]
  refine and_congr_right fun hl => ?_
  have hV : VW S w q := hl.1
  rw [bkQ_T hA hX wg hV (Nat.le_refl _)]
  have hb : ∀ x l z, (brd (STn S tc) x l).testBit z = true → (brd S x l).testBit z = true := fun x l z h => by rw [brd_T] at h; exact h
  have hb' : ∀ x l z, (brd S x l).testBit z = true → (brd (STn S tc) x l).testBit z = true := fun x l z h => by rw [brd_T]; exact h
  have hnb : nbQ (STn S tc) (XF (STn S tc) r') w q (S 2) = 0 ↔ nbQ S (XT S tc (XF S r)) w q (S 2) = 0 := by
    constructor
    · intro h
      have hX2 : XA (STn S tc) (XF (STn S tc) r') (XT S tc (XF S r)) := fun c i j h1 h2 h3 => by
        rw [STn_o (i := 1) (by omega)] at h1 h3
        have := wg.2.1
        unfold mmS at h2
        rw [STn_o (i := 1) (by omega), STn_o (i := 12 + c) (by omega)] at h2
        exact (hX c i j h1 h2 h3).symm
      have := nbQ_ss (AGL_s hA) hX2 (WG_T wg) hH' ((VW_T hA wg.2.1).mpr hV) hb' (by rw [e2]; exact h)
      rw [e2] at this
      exact this
    · exact nbQ_ss hA hX wg hH hV hb
  rw [hnb]
theorem tu_iff {S : Nat → Nat} {tc : Nat} (wg : WG S) (wt : WT S) (h9 : S 9 = 1) : (∃ r w q, r < fac (uc (STn S tc)) ∧ LN (STn S tc) (XF (STn S tc) r) w q ∧ nbQ (STn S tc) (XF (STn S tc) r) w q (STn S tc 2) = 0 ∧ bkQ (STn S tc) (XF (STn S tc) r) w q (STn S tc 2) = 0) ↔ tuP S tc := by
  obtain ⟨p1, p2⟩ := tu_perm (tc := tc) wg wt h9
  unfold tuP
  rw [uc_T wg wt h9]
  constructor
  · rintro ⟨r', w, q, h1, h2⟩
    obtain ⟨r, a1, a2⟩ := p2 r' h1
    exact ⟨r, w, q, a1, (tu_line wg wt h9 a1 h1 a2).mp h2⟩
  · rintro ⟨r, w, q, h1, h2⟩
    obtain ⟨r', a1, a2⟩ := p1 r h1
    exact ⟨r', w, q, a1, (tu_line wg wt h9 h1 a1 a2).mpr h2⟩
/-! the class turns a heap about -/
def swp (A B n : Nat) (g : Nat → Int32) (x : Nat) : Int32 := if A ≤ x ∧ x < A + n then g (x - A + B) else if B ≤ x ∧ x < B + n then g (x - B + A) else g x
theorem tt_l37 {n A B : Nat} {a5 : Int32} {g : Nat → Int32} (hAB : A + n ≤ B) (hB : B + n ≤ 48) : ∀ (d j nf : Nat) (m : rn_Mem), j + d = n → d < nf → (∀ x, x < 48 → m.1 56 x = swp A B j g x) → ∃ m2, ta_turn_l37 53 (nI n) (nI A) (nI B) a5 nf (nI j) m = some m2 ∧ (∀ x, x < 48 → m2.1 56 x = swp A B n g x) ∧ m2.2 = m.2 ∧ ∀ p, p ≠ 56 → m2.1 p = m.1 p := by
  intro d
  induction d with
  | zero =>
    intro j nf m e hnf h
    obtain ⟨nf, rfl⟩ : ∃ k, nf = k + 1 := ⟨nf - 1, by omega⟩
    obtain rfl : j = n := by omega
    exact ⟨m, by rw [ta_turn_l37, if_neg (by rw [nI_ltI (by omega) (by omega)]; omega)], h, rfl, fun _ _ => rfl⟩
  | succ d ih =>
    intro j nf m e hnf h
    obtain ⟨nf, rfl⟩ : ∃ k, nf = k + 1 := ⟨nf - 1, by omega⟩
    have v1 : m.1 56 (A + j) = g (A + j) := by
      rw [h _ (by omega)]
      unfold swp
      rw [if_neg (by omega), if_neg (by omega)]
    have v2 : m.1 56 (B + j) = g (B + j) := by
      rw [h _ (by omega)]
      unfold swp
      rw [if_neg (by omega), if_neg (by omega)]
    generalize hm12 : rm_i (rm_i m 56 (A + j) (g (B + j))) 56 (B + j) (g (A + j)) = m12
    have f1 : ∀ p, p ≠ 56 → m12.1 p = m.1 p := fun p hp => by rw [← hm12]; funext x; rw [mi_get, if_neg (fun t => hp t.1), mi_get, if_neg (fun t => hp t.1)]
    have f2 : ∀ x, m12.1 56 x = if x = B + j then g (A + j) else if x = A + j then g (B + j) else m.1 56 x := fun x => by
      rw [← hm12, mi_get]
      by_cases y : x = B + j
      · rw [if_pos ⟨rfl, y⟩, if_pos y]
      · rw [if_neg (fun t => y t.2), if_neg y, mi_get]
        by_cases z : x = A + j
        · rw [if_pos ⟨rfl, z⟩, if_pos z]
        · rw [if_neg (fun t => z t.2), if_neg z]
    obtain ⟨m2, p1, p2, p3, p4⟩ := ih (j + 1) nf m12 (by omega) (by omega) (fun x hx => by
      rw [f2]
      by_cases y : x = B + j
      · rw [if_pos y]
        unfold swp
        rw [if_neg (by omega), if_pos (by omega)]
        congr 1
        omega
      · rw [if_neg y]
        by_cases z : x = A + j
        · rw [if_pos z]
          unfold swp
          rw [if_pos (by omega)]
          congr 1
          omega
        · rw [if_neg z, h x hx]
          unfold swp
          by_cases y1 : A ≤ x ∧ x < A + j
          · rw [if_pos y1, if_pos (show A ≤ x ∧ x < A + (j + 1) by omega)]
          · rw [if_neg y1, if_neg (show ¬ (A ≤ x ∧ x < A + (j + 1)) by omega)]
            by_cases y2 : B ≤ x ∧ x < B + j
            · rw [if_pos y2, if_pos (show B ≤ x ∧ x < B + (j + 1) by omega)]
            · rw [if_neg y2, if_neg (show ¬ (B ≤ x ∧ x < B + (j + 1)) by omega)])
    refine ⟨m2, ?_, p2, by rw [p3, ← hm12]; rfl, fun p hp => by rw [p4 p hp, f1 p hp]⟩
    have iA : rn_in (nI (A + j)) 48 = true := (in_n (by omega)).mpr (by omega)
    have iB : rn_in (nI (B + j)) 48 = true := (in_n (by omega)).mpr (by omega)
    rw [ta_turn_l37, if_pos (by rw [nI_ltI (by omega) (by omega)]; omega), nI_add, nI_add]
    simp only [if_pos iA, if_pos iB, nI_n (show A + j < 2 ^ 31 by omega), nI_n (show B + j < 2 ^ 31 by omega), show (53 + 3 : Nat) = 56 from rfl, Option.bind_some]
    rw [v1, v2, hm12, nI_1]
    exact p1
theorem blk {n b k j : Nat} (hn : n = 2 ∨ n = 3 ∨ n = 4) (hj : j < n) : (n * k ≤ n * b + j ∧ n * b + j < n * k + n) ↔ b = k := by
  rcases hn with rfl | rfl | rfl <;> omega
/-- k pairs of tricks are changed -/
def BKt (n M base k : Nat) (g : Nat → Int32) (m : rn_Mem) : Prop := (∀ b j, b < M → j < n → m.1 56 (base + n * b + j) = g (base + n * (if b < k ∨ M - 1 - k < b then M - 1 - b else b) + j)) ∧ ∀ x, x < 48 → x < base ∨ base + n * M ≤ x → m.1 56 x = g x
theorem tt_l22 {n M base : Nat} {g : Nat → Int32} (hn : n = 2 ∨ n = 3 ∨ n = 4) (hM : M ≤ 4) (h1M : 1 ≤ M) (hb : base + n * M ≤ 48) : ∀ (d k nf : Nat) (m : rn_Mem), 2 * k ≤ M → k + d = 3 → d + 20 < nf → BKt n M base k g m → ∃ m2 k2, ta_turn_l22 53 (nI n) nf (nI (base + n * k)) (nI (base + n * (M - 1)) - nI (n * k)) (nI k) m = some m2 ∧ M ≤ 2 * k2 + 1 ∧ 2 * k2 ≤ M ∧ BKt n M base k2 g m2 ∧ m2.2 = m.2 ∧ ∀ p, p ≠ 56 → m2.1 p = m.1 p := by
  have n4 : n ≤ 4 := by omega
  intro d
  induction d with
  | zero =>
    intro k nf m h2 e hnf hB
    omega
  | succ d ih =>
    intro k nf m h2 e hnf hB
    obtain ⟨nf, rfl⟩ : ∃ k, nf = k + 1 := ⟨nf - 1, by omega⟩
    have hsub : nI (base + n * (M - 1)) - nI (n * k) = nI (base + n * (M - 1) - n * k) := pk_sub (by
      have : n * k ≤ n * (M - 1) ∨ (k = 0) := by
        by_cases y : k ≤ M - 1
        · exact Or.inl (Nat.mul_le_mul_left _ y)
        · exact Or.inr (by omega)
      rcases this with h | h
      · omega
      · rw [h]; omega)
    by_cases y : 2 * k + 1 < M
    case neg =>
      refine ⟨m, k, ?_, by omega, h2, hB, rfl, fun _ _ => rfl⟩
      rw [ta_turn_l22, hsub, show (4 : Int32) = nI 4 from rfl, if_pos (by rw [nI_ltI (by omega) (by omega)]; omega), if_neg]
      have h3 : n * (M - 1) ≤ n * (2 * k) := Nat.mul_le_mul_left _ (by omega)
      rw [nI_ltI (by rcases hn with rfl | rfl | rfl <;> omega) (by rcases hn with rfl | rfl | rfl <;> omega)]
      rcases hn with rfl | rfl | rfl <;> omega
    have hAk : n * k + n ≤ n * (M - 1 - k) := by
      have : n * (k + 1) ≤ n * (M - 1 - k) := Nat.mul_le_mul_left _ (by omega)
      rw [Nat.mul_add, Nat.mul_one] at this
      exact this
    have hBk : n * (M - 1 - k) + n ≤ n * M := by
      have : n * (M - 1 - k + 1) ≤ n * M := Nat.mul_le_mul_left _ (by omega)
      rw [Nat.mul_add, Nat.mul_one] at this
      exact this
    have hBe : base + n * (M - 1) - n * k = base + n * (M - 1 - k) := by rcases hn with rfl | rfl | rfl <;> omega
    obtain ⟨m15, q1, q2, q3, q4⟩ := tt_l37 (n := n) (A := base + n * k) (B := base + n * (M - 1 - k)) (a5 := nI k) (g := m.1 56) (by omega) (by omega) n 0 nf m (by omega) (by omega) (fun x _ => by
      unfold swp
      rw [if_neg (by omega), if_neg (by omega)])
    have hB2 : BKt n M base (k + 1) g m15 := by
      obtain ⟨b1, b2⟩ := hB
      refine ⟨fun b j hb' hj => ?_, fun x hx hr => ?_⟩
      · have hx48 : base + n * b + j < 48 := by
          have : n * (b + 1) ≤ n * M := Nat.mul_le_mul_left _ hb'
          rw [Nat.mul_add, Nat.mul_one] at this
          omega
        rw [q2 _ hx48]
        unfold swp
        have k1 := blk (n := n) (b := b) (k := k) (j := j) hn hj
        have k2 := blk (n := n) (b := b) (k := M - 1 - k) (j := j) hn hj
        by_cases z1 : b = k
        · have := k1.mpr z1
          rw [if_pos (by omega), z1, show base + n * k + j - (base + n * k) + (base + n * (M - 1 - k)) = base + n * (M - 1 - k) + j by omega, b1 (M - 1 - k) j (by omega) hj, if_neg (by omega), if_pos (by omega)]
        · have k1' : ¬ (n * k ≤ n * b + j ∧ n * b + j < n * k + n) := fun t => z1 (k1.mp t)
          rw [if_neg (by omega)]
          by_cases z2 : b = M - 1 - k
          · have := k2.mpr z2
            rw [if_pos (by omega), z2, show base + n * (M - 1 - k) + j - (base + n * (M - 1 - k)) + (base + n * k) = base + n * k + j by omega, b1 k j (by omega) hj, if_neg (by omega), if_pos (by omega), show M - 1 - (M - 1 - k) = k by omega]
          · have k2' : ¬ (n * (M - 1 - k) ≤ n * b + j ∧ n * b + j < n * (M - 1 - k) + n) := fun t => z2 (k2.mp t)
            rw [if_neg (by omega), b1 b j hb' hj]
            by_cases z3 : b < k ∨ M - 1 - k < b
            · rw [if_pos z3, if_pos (by omega)]
            · rw [if_neg z3, if_neg (by omega)]
      · rw [q2 x hx]
        unfold swp
        rw [if_neg (by omega), if_neg (by omega)]
        exact b2 x hx hr
    obtain ⟨m2, k2, r1, r2, r3, r4, r5, r6⟩ := ih (k + 1) nf m15 (by omega) (by omega) (by omega) hB2
    refine ⟨m2, k2, ?_, r2, r3, r4, by rw [r5, q3], fun p hp => by rw [r6 p hp, q4 p hp]⟩
    rw [ta_turn_l22, hsub, hBe, show (4 : Int32) = nI 4 from rfl, if_pos (by rw [nI_ltI (by omega) (by omega)]; omega), if_pos (by rw [nI_ltI (by omega) (by omega)]; omega), show ta_turn_l37 53 (nI n) (nI (base + n * k)) (nI (base + n * (M - 1 - k))) (nI k) nf 0 m = some m15 from q1, Option.bind_some, nI_add, Option.bind_some, nI_1, Option.bind_some, Option.bind_some]
    rw [show nI (base + n * (M - 1 - k)) - nI n = nI (base + n * (M - 1)) - nI (n * (k + 1)) by
      rw [pk_sub (by omega), pk_sub (by rcases hn with rfl | rfl | rfl <;> omega)]
      congr 1
      rcases hn with rfl | rfl | rfl <;> omega, show base + n * k + n = base + n * (k + 1) by rw [Nat.mul_add, Nat.mul_one]; omega]
    exact r1
