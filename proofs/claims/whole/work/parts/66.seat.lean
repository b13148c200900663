/-! ROW: read, stranger, seat, breach -/
theorem rl_c {n tr ls b : Nat} {f g : Nat → Nat} : ∀ {k : Nat}, (∀ i, i < n * k → f i = g i) → rl n tr ls b f k = rl n tr ls b g k
  | 0, _ => rfl
  | k + 1, h => by
    rw [Nat.mul_add, Nat.mul_one] at h
    rw [rl, rl, rl_c (f := f) (g := g) (k := k) fun i hi => h i (by omega)]
    by_cases hn : n = 0
    · subst hn
      rw [show (0 : Nat) - 1 = 0 from rfl]
      rfl
    · rw [wp_c (f := fun j => f (n * k + j)) (g := fun j => g (n * k + j)) fun i hi => h _ (by omega)]
theorem rwn_c {n tr ls b k : Nat} {f g : Nat → Nat} (hn : 0 < n) (h : ∀ i, i < n * k + n → f i = g i) : rwn n tr ls b f k = rwn n tr ls b g k := by
  unfold rwn
  rw [rl_c (f := f) (g := g) fun i hi => h i (by omega), wp_c (f := fun j => f (n * k + j)) (g := fun j => g (n * k + j)) fun i hi => h _ (by omega)]
theorem rpa_c {n tr ls b i : Nat} {f g : Nat → Nat} (h : ∀ j, j < n * (i / n) → f j = g j) : rpa n tr ls b f i = rpa n tr ls b g i := by
  unfold rpa
  rw [rl_c (f := f) (g := g) h]
def cd (x : Int32) : Nat := if 0 ≤ x.toInt ∧ x.toInt < 16 then x.toInt.toNat else 16
theorem cd_n {x : Int32} (h : cd x < 16) : x = nI (cd x) := by
  unfold cd at *
  split at h
  · rename_i q
    rw [if_pos q, i_eq, nI_int (by omega)]
    omega
  · omega
theorem cd_le (x : Int32) : cd x ≤ 16 := by
  unfold cd
  split <;> omega
theorem ga_has_x {n g P : Nat} {x : Int32} {m : rn_Mem} (h1 : m.1 g 3 = nI P) (h : P < 65536) : ga_has n g x m = some (if P.testBit (cd x) = true then 1 else 0, m) := by
  by_cases q : cd x < 16
  · have e := cd_n q
    have := ga_has_eq n g P (cd x) m (by omega) h1 h
    rw [← e] at this
    exact this
  · have q16 : cd x = 16 := by have := cd_le x; omega
    rw [q16, bit_high (a := P) (k := 16) (by omega) (by omega)]
    unfold ga_has
    simp only [i_lt, t0, t16]
    unfold cd at q
    by_cases q1 : x.toInt < 0
    · rw [if_pos q1]; rfl
    · rw [if_neg q1, if_neg (fun z => q (by rw [if_pos (by omega)]; omega))]; rfl
theorem mo_isInPack_x {n P : Nat} {x : Int32} {m : rn_Mem} (h1 : m.1 116 3 = nI P) (h : P < 65536) : mo_isInPack n x m = some (if P.testBit (cd x) = true then 1 else 0, m) := by
  by_cases q : cd x < 16
  · have e := cd_n q
    have := mo_isInPack_eq n (fun _ => P) (cd x) m (by omega) h1 h
    rw [← e] at this
    exact this
  · have q16 : cd x = 16 := by have := cd_le x; omega
    rw [q16, bit_high (a := P) (k := 16) (by omega) (by omega)]
    unfold mo_isInPack
    rw [mo_in_i n x 0 15 0 15 m (by decide) (by decide), if_neg]
    · rfl
    · unfold cd at q
      intro z
      exact q (by rw [if_pos (by omega)]; omega)
def nwb (P : Nat) (f : Nat → Nat) (i : Nat) : Bool := P.testBit (f i) && !(msk f i).testBit (f i)
theorem bit16 {P x : Nat} (h : P < 65536) (hb : P.testBit x = true) : x < 16 := by
  apply Classical.byContradiction
  intro q
  rw [bit_high (a := P) (k := 16) (by omega) (by omega)] at hb
  cases hb
theorem ro_read_l13_sp {q2 fr sz : Nat} {m0 : rn_Mem} (hq : 60 < q2) (hsz : sz ≤ 12) (hfr : fr + sz ≤ 24) : ∀ (r i nf : Nat) (m : rn_Mem), i + r = sz → r < nf → m.1 (q2 + 1) = m0.1 (q2 + 1) → (∀ j, j < i → m.1 47 j = m0.1 (q2 + 1) (fr + j)) → ∃ m2, ro_read_l13 46 q2 (nI fr) (nI sz) nf (nI i) m = some m2 ∧ (∀ j, j < sz → m2.1 47 j = m0.1 (q2 + 1) (fr + j)) ∧ Kr (fun p => p = 47) m m2 := by
  intro r
  induction r with
  | zero =>
    intro i nf m e hnf h1 h2
    obtain ⟨nf, rfl⟩ : ∃ e, nf = e + 1 := ⟨nf - 1, by omega⟩
    obtain rfl : i = sz := by omega
    refine ⟨m, ?_, h2, Kr.rf⟩
    unfold ro_read_l13
    rw [if_neg (by rw [nI_ltI (by omega) (by omega)]; omega)]
  | succ r ih =>
    intro i nf m e hnf h1 h2
    obtain ⟨nf, rfl⟩ : ∃ e, nf = e + 1 := ⟨nf - 1, by omega⟩
    obtain ⟨m2, b1, b2, b3⟩ := ih (i + 1) nf (rm_i m 47 i (m.1 (q2 + 1) (fr + i))) (by omega) (by omega) (by
      rw [← h1]
      funext j
      rw [mi_get, if_neg (by omega)]) (by
      intro j hj
      rw [mi_get]
      by_cases g : j = i
      · rw [if_pos ⟨rfl, g⟩, g, h1]
      · rw [if_neg (fun z => g z.2)]
        exact h2 j (by omega))
    refine ⟨m2, ?_, b2, Kr.tr (Kr.rf.sti (by exact rfl)) b3⟩
    unfold ro_read_l13
    rw [if_pos (by rw [nI_ltI (by omega) (by omega)]; omega), if_pos (by rw [k12, nI_ltI (by omega) (by omega)]; omega), nI_add, if_pos ((in_n (by omega)).mpr (by omega)), if_pos ((in_n (by omega)).mpr (by omega)), nI_n (by omega), nI_n (by omega), nI_1]
    exact b1
theorem ro_read_l52_sp : ∀ (r i nf : Nat) (m : rn_Mem), i + r = 13 → r < nf → (∀ j, j < i → m.1 50 j = -1) → ∃ m2, ro_read_l52 46 nf (nI i) m = some m2 ∧ (∀ j, j < 13 → m2.1 50 j = -1) ∧ Kr (fun p => p = 50) m m2 := by
  intro r
  induction r with
  | zero =>
    intro i nf m e hnf h2
    obtain ⟨nf, rfl⟩ : ∃ e, nf = e + 1 := ⟨nf - 1, by omega⟩
    obtain rfl : i = 13 := by omega
    refine ⟨m, ?_, h2, Kr.rf⟩
    unfold ro_read_l52
    rw [if_pos (by decide)]
  | succ r ih =>
    intro i nf m e hnf h2
    obtain ⟨nf, rfl⟩ : ∃ e, nf = e + 1 := ⟨nf - 1, by omega⟩
    obtain ⟨m2, b1, b2, b3⟩ := ih (i + 1) nf (rm_i m 50 i (-1)) (by omega) (by omega) (by
      intro j hj
      rw [mi_get]
      by_cases g : j = i
      · rw [if_pos ⟨rfl, g⟩]
      · rw [if_neg (fun z => g z.2)]
        exact h2 j (by omega))
    refine ⟨m2, ?_, b2, Kr.tr (Kr.rf.sti (by exact rfl)) b3⟩
    unfold ro_read_l52
    rw [if_neg (by rw [k12, nI_ltI (by omega) (by omega)]; omega), if_pos ((in_n (by omega)).mpr (by omega)), nI_n (by omega), nI_1]
    exact b1
def Prd (p : Nat) : Prop := p = 46 ∨ p = 47 ∨ p = 50
theorem ro_read_sp {q2 fr sz nf b : Nat} {m : rn_Mem} (hnf : 30 < nf) (hq : 60 < q2) (hsz : sz ≤ 12) (hfr : fr + sz ≤ 24) : ∃ m2, ro_read nf 46 (nI b) q2 (nI fr) (nI sz) m = some m2 ∧ m2.1 46 0 = 1 ∧ m2.1 46 1 = nI b ∧ (∀ j, j < sz → m2.1 47 j = m.1 (q2 + 1) (fr + j)) ∧ (∀ j, j < 13 → m2.1 50 j = -1) ∧ Kr Prd m m2 := by
  obtain ⟨m1, a1, a2, a3⟩ := ro_read_l13_sp (m0 := m) hq hsz hfr sz 0 nf (rm_i (rm_i m 46 0 1) 46 1 (nI b)) (by omega) (by omega) (by
    funext j
    rw [mi_get, if_neg (by omega), mi_get, if_neg (by omega)]) (by intro j hj; omega)
  obtain ⟨m2, b1, b2, b3⟩ := ro_read_l52_sp 13 0 nf m1 (by omega) (by omega) (by intro j hj; omega)
  have e46 : m2.1 46 = (rm_i (rm_i m 46 0 1) 46 1 (nI b)).1 46 := by rw [(b3 46 (by omega)).1, (a3 46 (by omega)).1]
  refine ⟨m2, ?_, ?_, ?_, fun j hj => ?_, b2, ?_⟩
  · unfold ro_read
    simp only [Option.bind_some]
    rw [k0, a1]
    simp only [Option.bind_some]
    rw [b1]
    rfl
  · rw [e46]
    simp (disch := omega) only [mi_get, mc_get, mi_2, mc_2, mj_1, mj_get, if_pos, if_neg, true_and, and_true, if_true, and_self]
  · rw [e46]
    simp (disch := omega) only [mi_get, mc_get, mi_2, mc_2, mj_1, mj_get, if_pos, if_neg, true_and, and_true, if_true, and_self]
  · rw [(b3 47 (by omega)).1]
    exact a2 j hj
  · refine (Kr.tr ((Kr.rf.sti (p := 46) ?_).sti (p := 46) ?_) (a3.mono fun p hp => ?_)).tr (b3.mono fun p hp => ?_)
    · exact Or.inl rfl
    · exact Or.inl rfl
    · exact Or.inr (Or.inl hp)
    · exact Or.inr (Or.inr hp)
theorem stranger_l4_sp {n t P : Nat} {x : Nat → Int32} {m : rn_Mem} (hs : n * t ≤ 12) (hP : P < 65536) (h1 : m.1 4 1 = nI n) (h2 : m.1 4 2 = nI t) (h3 : m.1 4 3 = nI P) (hx : ∀ i, i < n * t → m.1 47 i = x i) : ∀ (r i nf : Nat), i + r = n * t → r < nf → (∀ j, j < i → cd (x j) < 16) → ro_stranger_l4 46 4 nf (nI (msk (fun i => cd (x i)) i)) (nI i) m = some (match ffl (nwb P fun i => cd (x i)) r i with | some j => .inl (nI j, m) | none => .inr m) := by
  intro r
  induction r with
  | zero =>
    intro i nf e hnf hc
    obtain ⟨nf, rfl⟩ : ∃ e, nf = e + 1 := ⟨nf - 1, by omega⟩
    unfold ro_stranger_l4 ga_cards
    simp only [Option.bind_some]
    rw [h1, h2, pk_mul, if_neg (by rw [nI_ltI (by omega) (by omega)]; omega)]
    rfl
  | succ r ih =>
    intro i nf e hnf hc
    obtain ⟨nf, rfl⟩ : ∃ e, nf = e + 1 := ⟨nf - 1, by omega⟩
    have hM := msk_lt (f := fun i => cd (x i)) (j := i) hc
    unfold ro_stranger_l4 ga_cards
    simp only [Option.bind_some]
    rw [h1, h2, pk_mul, if_pos (by rw [nI_ltI (by omega) (by omega)]; omega), if_pos ((in_n (by omega)).mpr (by omega)), nI_n (by omega), show m.1 (46 + 1) i = x i from hx i (by omega), ga_has_x h3 hP]
    simp only [Option.bind_some]
    rw [ffl]
    by_cases q1 : P.testBit (cd (x i)) = true
    · have hx16 := bit16 hP q1
      have ex := cd_n hx16
      rw [if_neg (b10 q1), if_pos ((in_n (by omega)).mpr (by omega)), if_pos ((in_n (by omega)).mpr (by omega)), show m.1 (46 + 1) i = x i from hx i (by omega)]
      have hb : ((nI (msk (fun i => cd (x i)) i) >>> (x i &&& 31)) &&& 1 = 0) = ((msk (fun i => cd (x i)) i).testBit (cd (x i)) = false) := by
        have := bit_0 (a := msk (fun i => cd (x i)) i) (k := cd (x i)) (by omega) (by omega)
        rw [← ex] at this
        exact propext this
      simp only [hb]
      cases q2 : (msk (fun i => cd (x i)) i).testBit (cd (x i)) with
      | false =>
        have hnb : nwb P (fun i => cd (x i)) i = true := by
          show (P.testBit (cd (x i)) && !(msk (fun i => cd (x i)) i).testBit (cd (x i))) = true
          rw [q1, q2]; rfl
        rw [if_pos rfl, if_pos hnb]
        have h := ih (i + 1) nf (by omega) (by omega) (by
          intro j hj
          by_cases g : j = i
          · rw [g]; exact hx16
          · exact hc j (by omega))
        have e2 : (1 : Int32) <<< (x i &&& 31) = nI (2 ^ cd (x i)) := by
          have := shl_1 (k := cd (x i)) (by omega)
          rw [← ex] at this
          exact this
        rw [e2, fa_or, nI_1]
        exact h
      | true =>
        have hnb : nwb P (fun i => cd (x i)) i = false := by
          show (P.testBit (cd (x i)) && !(msk (fun i => cd (x i)) i).testBit (cd (x i))) = false
          rw [q1, q2]; rfl
        rw [if_neg (show ¬ true = false by decide), hnb, if_neg (show ¬ false = true by decide)]
    · have hnb : nwb P (fun i => cd (x i)) i = false := by
        show (P.testBit (cd (x i)) && !(msk (fun i => cd (x i)) i).testBit (cd (x i))) = false
        rw [Bool.not_eq_true] at q1
        rw [q1]; rfl
      rw [if_pos (b00 q1), hnb, if_neg (show ¬ false = true by decide)]
theorem row_l72_sp {n t P s fr : Nat} {x : Nat → Int32} {a1 : Int32} (hs4 : s < 4) (hs : n * t ≤ 12) (hfr : fr + n * t ≤ 24) (hP : P < 65536) : ∀ (r i nf : Nat) (m : rn_Mem), i + r = n * t → r < nf → m.1 116 1 = nI n → m.1 116 2 = nI t → m.1 116 3 = nI P → (∀ i, i < n * t → m.1 152 (24 * s + fr + i) = x i) → (∀ j, j < i → cd (x j) < 16 ∧ m.1 138 j = x j) → ∃ m2, Kr (fun p => p = 138) m m2 ∧ mo_row_l72 a1 (nI s) (nI fr) nf (nI (msk (fun i => cd (x i)) i)) (nI i) m = some (match ffl (nwb P fun i => cd (x i)) r i with | some j => .inl (nI j, m2) | none => .inr m2) ∧ (ffl (nwb P fun i => cd (x i)) r i = none → ∀ j, j < n * t → m2.1 138 j = x j) := by
  intro r
  induction r with
  | zero =>
    intro i nf m e hnf h1 h2 h3 hx hc
    obtain ⟨nf, rfl⟩ : ∃ e, nf = e + 1 := ⟨nf - 1, by omega⟩
    refine ⟨m, Kr.rf, ?_, fun _ j hj => (hc j (by omega)).2⟩
    unfold mo_row_l72 mo_size
    simp only [Option.bind_some]
    rw [h1, h2, pk_mul, if_neg (by rw [nI_ltI (by omega) (by omega)]; omega)]
    rfl
  | succ r ih =>
    intro i nf m e hnf h1 h2 h3 hx hc
    obtain ⟨nf, rfl⟩ : ∃ e, nf = e + 1 := ⟨nf - 1, by omega⟩
    have hM := msk_lt (f := fun i => cd (x i)) (j := i) fun j hj => (hc j hj).1
    have st : mo_row_l72 a1 (nI s) (nI fr) (nf + 1) (nI (msk (fun i => cd (x i)) i)) (nI i) m = if nwb P (fun i => cd (x i)) i = true then mo_row_l72 a1 (nI s) (nI fr) nf (nI (msk (fun i => cd (x i)) (i + 1))) (nI (i + 1)) (rm_i m 138 i (x i)) else some (.inl (nI i, m)) := by
      rw [mo_row_l72]
      unfold mo_size
      simp only [Option.bind_some]
      rw [h1, h2, pk_mul, if_pos (by rw [nI_ltI (by omega) (by omega)]; omega), k24, pk_mul, nI_add, nI_add, if_pos ((in_n (by omega)).mpr (by omega)), nI_n (by omega), hx i (by omega), mo_isInPack_x h3 hP]
      simp only [Option.bind_some]
      by_cases q1 : P.testBit (cd (x i)) = true
      · have hx16 := bit16 hP q1
        have ex := cd_n hx16
        rw [if_neg (b10 q1)]
        have hb : ((nI (msk (fun i => cd (x i)) i) >>> (x i &&& 31)) &&& 1 = 1) = ((msk (fun i => cd (x i)) i).testBit (cd (x i)) = true) := by
          have := bit_1 (a := msk (fun i => cd (x i)) i) (k := cd (x i)) (by omega) (by omega)
          rw [← ex] at this
          exact propext this
        simp only [hb]
        cases q2 : (msk (fun i => cd (x i)) i).testBit (cd (x i)) with
        | false =>
          have hnb : nwb P (fun i => cd (x i)) i = true := by
            show (P.testBit (cd (x i)) && !(msk (fun i => cd (x i)) i).testBit (cd (x i))) = true
            rw [q1, q2]; rfl
          have e2 : (1 : Int32) <<< (x i &&& 31) = nI (2 ^ cd (x i)) := by
            have := shl_1 (k := cd (x i)) (by omega)
            rw [← ex] at this
            exact this
          rw [if_neg (show ¬ false = true by decide), if_pos hnb, if_pos ((in_n (by omega)).mpr (by omega)), nI_n (by omega), e2, fa_or, nI_1]
          rfl
        | true =>
          have hnb : nwb P (fun i => cd (x i)) i = false := by
            show (P.testBit (cd (x i)) && !(msk (fun i => cd (x i)) i).testBit (cd (x i))) = false
            rw [q1, q2]; rfl
          rw [if_pos rfl, hnb, if_neg (show ¬ false = true by decide)]
      · have hnb : nwb P (fun i => cd (x i)) i = false := by
          show (P.testBit (cd (x i)) && !(msk (fun i => cd (x i)) i).testBit (cd (x i))) = false
          rw [Bool.not_eq_true] at q1
          rw [q1]; rfl
        rw [if_pos (b00 q1), hnb, if_neg (show ¬ false = true by decide)]
    rw [st, ffl]
    by_cases q : nwb P (fun i => cd (x i)) i = true
    · rw [if_pos q, if_pos q]
      have hx16 : cd (x i) < 16 := by
        have q' : (P.testBit (cd (x i)) && !(msk (fun i => cd (x i)) i).testBit (cd (x i))) = true := q
        rw [Bool.and_eq_true] at q'
        exact bit16 hP q'.1
      obtain ⟨m2, b1, b2, b3⟩ := ih (i + 1) nf (rm_i m 138 i (x i)) (by omega) (by omega) (by rw [mi_get, if_neg (by omega)]; exact h1) (by rw [mi_get, if_neg (by omega)]; exact h2) (by rw [mi_get, if_neg (by omega)]; exact h3) (by
        intro j hj
        rw [mi_get, if_neg (by omega)]
        exact hx j hj) (by
        intro j hj
        rw [mi_get]
        by_cases g : j = i
        · rw [if_pos ⟨rfl, g⟩, g]
          exact ⟨hx16, rfl⟩
        · rw [if_neg (fun z => g z.2)]
          exact hc j (by omega))
      exact ⟨m2, Kr.tr (Kr.rf.sti (by exact rfl)) b1, b2, b3⟩
    · rw [if_neg q, if_neg q]
      exact ⟨m, Kr.rf, rfl, fun z => by cases z⟩
/-! seat -/
theorem seat_l28_sp {n tr L k : Nat} {f : Nat → Nat} {a2 a4 : Int32} (hn : 2 ≤ n) (hn4 : n ≤ 4) (hk : n * k + n ≤ 12) (hf : ∀ i, i < n * k + n → f i < 16) : ∀ (r j nf : Nat) (m : rn_Mem), j + r = n → r < nf → m.1 4 1 = nI n → m.1 4 4 = cT tr → (∀ i, i < n * k + n → m.1 47 i = nI (f i)) → ∃ m2, ro_seat_l28 46 4 a2 (nI (n * k)) a4 nf (jo n tr L (fun j => f (n * k + j)) j) (nI ((L + j) % n)) (nI j) m = some (jo n tr L (fun j => f (n * k + j)) n, m2) ∧ (∀ i, n * k + j ≤ i → i < n * k + n → m2.1 48 i = nI ((L + (i - n * k)) % n)) ∧ (∀ i, (i < n * k + j ∨ n * k + n ≤ i) → m2.1 48 i = m.1 48 i) ∧ Kr (fun p => p = 48) m m2 := by
  intro r
  induction r with
  | zero =>
    intro j nf m e hnf h1 h4 hc
    obtain ⟨nf, rfl⟩ : ∃ e, nf = e + 1 := ⟨nf - 1, by omega⟩
    obtain rfl : j = n := by omega
    refine ⟨m, ?_, fun i q1 q2 => by omega, fun i _ => rfl, Kr.rf⟩
    unfold ro_seat_l28
    rw [h1, if_neg (by rw [nI_ltI (by omega) (by omega)]; omega)]
  | succ r ih =>
    intro j nf m e hnf h1 h4 hc
    obtain ⟨nf, rfl⟩ : ∃ e, nf = e + 1 := ⟨nf - 1, by omega⟩
    have ko : ∀ q, q ≠ 48 → (rm_i m 48 (n * k + j) (nI ((L + j) % n))).1 q = m.1 q := by
      intro q hq
      funext j
      rw [mi_get, if_neg (fun z => hq z.1)]
    obtain ⟨m2, b1, b2, b3, b4⟩ := ih (j + 1) nf (rm_i m 48 (n * k + j) (nI ((L + j) % n))) (by omega) (by omega) (by rw [ko 4 (by omega)]; exact h1) (by rw [ko 4 (by omega)]; exact h4) (by rw [ko 47 (by omega)]; exact hc)
    refine ⟨m2, ?_, fun i q1 q2 => ?_, fun i q1 => ?_, Kr.tr (Kr.rf.sti (by exact rfl)) b4⟩
    · unfold ro_seat_l28
      rw [h1, if_pos (by rw [nI_ltI (by omega) (by omega)]; omega), nI_add, if_pos ((in_n (by omega)).mpr (by omega)), nI_n (by omega)]
      simp only [Option.bind_some]
      rw [if_pos ((in_n (by omega)).mpr (by omega)), show (46 : Nat) + 1 = 47 from rfl, show (46 : Nat) + 2 = 48 from rfl, ko 47 (by omega), hc _ (by omega), ga_join_sp (f := fun j => f (n * k + j)) (by omega) hn4 (fun i hi => hf _ (by omega)) (by rw [ko 4 (by omega)]; exact h4)]
      simp only [Option.bind_some]
      rw [ga_next_sp (x := L + j) (by omega) hn4 (by rw [ko 4 (by omega)]; exact h1)]
      simp only [Option.bind_some, nI_1]
      exact b1
    · by_cases g : i = n * k + j
      · rw [b3 i (by omega), mi_get, if_pos ⟨rfl, g⟩, show i - n * k = j by omega]
      · exact b2 i (by omega) q2
    · rw [b3 i (by omega), mi_get, if_neg (by omega)]
theorem seat_l91_sp {n k : Nat} {a2 a4 w : Int32} (hn4 : n ≤ 4) (hk : n * k + n ≤ 12) : ∀ (r j nf : Nat) (m : rn_Mem), j + r = n → r < nf → m.1 4 1 = nI n → ∃ m2, ro_seat_l91 46 4 a2 (nI (n * k)) a4 w nf (nI j) m = some m2 ∧ (∀ i, n * k + j ≤ i → i < n * k + n → m2.1 49 i = w) ∧ (∀ i, (i < n * k + j ∨ n * k + n ≤ i) → m2.1 49 i = m.1 49 i) ∧ Kr (fun p => p = 49) m m2 := by
  intro r
  induction r with
  | zero =>
    intro j nf m e hnf h1
    obtain ⟨nf, rfl⟩ : ∃ e, nf = e + 1 := ⟨nf - 1, by omega⟩
    obtain rfl : j = n := by omega
    refine ⟨m, ?_, fun i q1 q2 => by omega, fun i _ => rfl, Kr.rf⟩
    unfold ro_seat_l91
    rw [h1, if_neg (by rw [nI_ltI (by omega) (by omega)]; omega)]
  | succ r ih =>
    intro j nf m e hnf h1
    obtain ⟨nf, rfl⟩ : ∃ e, nf = e + 1 := ⟨nf - 1, by omega⟩
    obtain ⟨m2, b1, b2, b3, b4⟩ := ih (j + 1) nf (rm_i m 49 (n * k + j) w) (by omega) (by omega) (by rw [mi_get, if_neg (by omega)]; exact h1)
    refine ⟨m2, ?_, fun i q1 q2 => ?_, fun i q1 => ?_, Kr.tr (Kr.rf.sti (by exact rfl)) b4⟩
    · unfold ro_seat_l91
      rw [h1, if_pos (by rw [nI_ltI (by omega) (by omega)]; omega), nI_add, if_pos ((in_n (by omega)).mpr (by omega)), nI_n (by omega), nI_1]
      exact b1
    · by_cases g : i = n * k + j
      · rw [b3 i (by omega), mi_get, if_pos ⟨rfl, g⟩]
      · exact b2 i (by omega) q2
    · rw [b3 i (by omega), mi_get, if_neg (by omega)]
def Pst (p : Nat) : Prop := p = 48 ∨ p = 49
theorem seat_l10_sp {n t tr ls b : Nat} {f : Nat → Nat} (hn : 2 ≤ n) (hn4 : n ≤ 4) (ht : t ≤ 4) (hs : n * t ≤ 12) (hls : ls < 2) (hb : b < n) (hf : ∀ i, i < n * t → f i < 16) : ∀ (r k nf : Nat) (m : rn_Mem), k + r = t → r + 20 < nf → m.1 4 1 = nI n → m.1 4 2 = nI t → m.1 4 4 = cT tr → m.1 4 6 = nI ls → (∀ i, i < n * t → m.1 47 i = nI (f i)) → (∀ i, i < n * k → m.1 48 i = nI (rpa n tr ls b f i) ∧ m.1 49 i = nI (rwn n tr ls b f (i / n))) → ∃ m2, ro_seat_l10 46 4 nf (nI (rl n tr ls b f k)) (nI (n * k)) (nI k) m = some m2 ∧ (∀ i, i < n * t → m2.1 48 i = nI (rpa n tr ls b f i) ∧ m2.1 49 i = nI (rwn n tr ls b f (i / n))) ∧ Kr Pst m m2 := by
  intro r
  induction r with
  | zero =>
    intro k nf m e hnf h1 h2 h4 h6 hc hd
    obtain ⟨nf, rfl⟩ : ∃ e, nf = e + 1 := ⟨nf - 1, by omega⟩
    obtain rfl : k = t := by omega
    refine ⟨m, ?_, hd, Kr.rf⟩
    unfold ro_seat_l10
    rw [h2, if_neg (by rw [nI_ltI (by omega) (by omega)]; omega)]
  | succ r ih =>
    intro k nf m e hnf h1 h2 h4 h6 hc hd
    obtain ⟨nf, rfl⟩ : ∃ e, nf = e + 1 := ⟨nf - 1, by omega⟩
    have hkn := kn (n := n) (show k < t by omega)
    have hL := rl_lt (tr := tr) (ls := ls) (f := f) (show 0 < n by omega) hb k
    obtain ⟨m1, a1, a2, a3, a4⟩ := seat_l28_sp (tr := tr) (L := rl n tr ls b f k) (k := k) (f := f) (a2 := nI (rl n tr ls b f k)) (a4 := nI k) hn hn4 (by omega) (fun i hi => hf i (by omega)) n 0 nf m (by omega) (by omega) h1 h4 (fun i hi => hc i (by omega))
    rw [Nat.add_zero, Nat.mod_eq_of_lt hL, show jo n tr (rl n tr ls b f k) (fun j => f (n * k + j)) 0 = -1 from mi1.symm, show nI 0 = 0 from rfl] at a1
    have e4 : m1.1 4 = m.1 4 := (a4 4 (by omega)).1
    have hw : ga_winnerOf nf (jo n tr (rl n tr ls b f k) (fun j => f (n * k + j)) n) m1 = some (nI (rwn n tr ls b f k), m1) := by
      rw [show jo n tr (rl n tr ls b f k) (fun j => f (n * k + j)) n = nI (jc n tr (rl n tr ls b f k) (fun j => f (n * k + j)) (n - 1)) by rw [show n = (n - 1) + 1 by omega]; rfl, jc_win (by omega) hn4 (fun i hi => hf _ (by omega))]
      rfl
    obtain ⟨m2, b1, b2, b3, b4⟩ := seat_l91_sp (n := n) (k := k) (a2 := nI (rl n tr ls b f k)) (a4 := nI k) (w := nI (rwn n tr ls b f k)) hn4 (by omega) n 0 nf m1 (by omega) (by omega) (by rw [e4]; exact h1)
    rw [show nI 0 = 0 from rfl] at b1
    have f4 : m2.1 4 = m.1 4 := by rw [(b4 4 (by omega)).1, e4]
    have nx : (if nI ls = 0 then some (nI (rwn n tr ls b f k), m2) else (ga_next nf 4 (nI (rl n tr ls b f k)) m2).bind fun (r33, m32) => some (r33, m32)) = some (nI (rl n tr ls b f (k + 1)), m2) := by
      rw [rl]
      by_cases g : ls = 0
      · rw [if_pos (by rw [g]; rfl), if_pos g]
        rfl
      · have := ga_next_sp (n := nf) (g := 4) (x := rl n tr ls b f k) (k := n) (m := m2) (by omega) hn4 (by rw [f4]; exact h1)
        rw [Nat.mod_eq_of_lt hL] at this
        rw [if_neg (nI_ne0 (by omega) (by omega)), if_neg g, this]
        rfl
    obtain ⟨m3, c1, c2, c3⟩ := ih (k + 1) nf m2 (by omega) (by omega) (by rw [f4]; exact h1) (by rw [f4]; exact h2) (by rw [f4]; exact h4) (by rw [f4]; exact h6) (by rw [(b4 47 (by omega)).1, (a4 47 (by omega)).1]; exact hc) (by
      intro i hi
      rw [Nat.mul_add, Nat.mul_one] at hi
      rw [(b4 48 (by omega)).1]
      by_cases g : i < n * k
      · rw [a3 i (by omega), b3 i (by omega), (a4 49 (by omega)).1]
        exact hd i g
      · have e1 : i / n = k := by
          rw [show i = n * k + (i - n * k) by omega, Nat.mul_add_div (by omega), Nat.div_eq_of_lt (show i - n * k < n by omega), Nat.add_zero]
        have e2 : i % n = i - n * k := by
          rw [show i = n * k + (i - n * k) by omega, Nat.mul_add_mod, Nat.mod_eq_of_lt (show i - n * k < n by omega)]
          omega
        rw [a2 i (by omega) (by omega), b2 i (by omega) (by omega), e1]
        refine ⟨?_, rfl⟩
        unfold rpa
        rw [e1, e2])
    refine ⟨m3, ?_, c2, ((a4.mono fun p hp => ?_).tr (b4.mono fun p hp => ?_)).tr c3⟩
    · unfold ro_seat_l10
      rw [h2, if_pos (by rw [nI_ltI (by omega) (by omega)]; omega), a1]
      simp only [Option.bind_some]
      rw [hw]
      simp only [Option.bind_some]
      rw [b1]
      simp only [Option.bind_some]
      rw [f4, h6, nx]
      simp only [Option.bind_some]
      rw [f4, h1, nI_add, nI_1, show n * k + n = n * (k + 1) by rw [Nat.mul_add, Nat.mul_one]]
      exact c1
    · exact Or.inl hp
    · exact Or.inr hp
theorem seat_sp {n t tr ls b nf : Nat} {f : Nat → Nat} {m : rn_Mem} (hnf : 40 < nf) (hn : 2 ≤ n) (hn4 : n ≤ 4) (ht : t ≤ 4) (hs : n * t ≤ 12) (hls : ls < 2) (hb : b < n) (hf : ∀ i, i < n * t → f i < 16) (h1 : m.1 4 1 = nI n) (h2 : m.1 4 2 = nI t) (h4 : m.1 4 4 = cT tr) (h6 : m.1 4 6 = nI ls) (hb1 : m.1 46 1 = nI b) (hc : ∀ i, i < n * t → m.1 47 i = nI (f i)) : ∃ m2, ro_seat nf 46 4 m = some m2 ∧ (∀ i, i < n * t → m2.1 48 i = nI (rpa n tr ls b f i) ∧ m2.1 49 i = nI (rwn n tr ls b f (i / n))) ∧ Kr Pst m m2 := by
  obtain ⟨m2, a1, a2, a3⟩ := seat_l10_sp hn hn4 ht hs hls hb hf t 0 nf m (by omega) (by omega) h1 h2 h4 h6 hc (by intro i hi; rw [Nat.mul_zero] at hi; omega)
  refine ⟨m2, ?_, a2, a3⟩
  unfold ro_seat
  simp only [Option.bind_some]
  rw [show rl n tr ls b f 0 = b from rfl, Nat.mul_zero, show nI 0 = 0 from rfl] at a1
  rw [hb1, a1]
  rfl
/-- the card at a place keeps FOLLOW -/
def lwb (n t fo tr ls b : Nat) (f : Nat → Nat) (i : Nat) : Bool := lts fo tr (if i % n = 0 then 4 else f (n * (i / n)) / 4) (f i) (hdm (rpa n tr ls b f) f (rpa n tr ls b f i) (n * t - i) i)
theorem breach_l12_sp {n t fo tr ls b : Nat} {f : Nat → Nat} (hn : 2 ≤ n) (hn4 : n ≤ 4) (ht : t ≤ 4) (hs : n * t ≤ 12) (hfo : fo ≤ 2) (hb : b < n) (hf : ∀ i, i < n * t → f i < 16) (hinj : ∀ i j, i < n * t → j < n * t → f i = f j → i = j) : ∀ (r i nf : Nat) (m : rn_Mem), i + r = n * t → r + 30 < nf → m.1 4 1 = nI n → m.1 4 2 = nI t → m.1 4 4 = cT tr → m.1 4 5 = nI fo → (∀ i, i < n * t → m.1 47 i = nI (f i) ∧ m.1 48 i = nI (rpa n tr ls b f i)) → (∀ c, c < 4 → m.1 103 c = nI (hdm (rpa n tr ls b f) f c (n * t - i) i)) → ∃ m2, ju_breach_l12 4 46 nf (jo n tr (rl n tr ls b f (i / n)) (fun j => f (n * (i / n) + j)) (i % n)) (nI i) m = some (match ffl (lwb n t fo tr ls b f) r i with | some j => .inl (nI j, m2) | none => .inr m2) ∧ Kr (fun p => p = 103) m m2 := by
  intro r
  induction r with
  | zero =>
    intro i nf m e hnf h1 h2 h4 h5 hc hh
    obtain ⟨nf, rfl⟩ : ∃ e, nf = e + 1 := ⟨nf - 1, by omega⟩
    refine ⟨m, ?_, Kr.rf⟩
    unfold ju_breach_l12 ga_cards
    simp only [Option.bind_some]
    rw [h1, h2, pk_mul, if_neg (by rw [nI_ltI (by omega) (by omega)]; omega)]
    rfl
  | succ r ih =>
    intro i nf m e hnf h1 h2 h4 h5 hc hh
    obtain ⟨nf, rfl⟩ : ∃ e, nf = e + 1 := ⟨nf - 1, by omega⟩
    have hp := rpa_lt (tr := tr) (ls := ls) (b := b) (k := i) (f := f) (show 0 < n by omega)
    have hfi := hf i (by omega)
    have hH := hdm_lt (p := rpa n tr ls b f) (f := f) (c := rpa n tr ls b f i) (r := n * t - i) (i := i) fun j q1 q2 => hf j (by omega)
    have hmod := Nat.mod_lt i (show n > 0 by omega)
    have hdm1 := Nat.div_add_mod i n
    have hsc : sc (jo n tr (rl n tr ls b f (i / n)) (fun j => f (n * (i / n) + j)) (i % n)) (if i % n = 0 then 4 else f (n * (i / n)) / 4) := by
      have := sc_jo (n := n) (tr := tr) (L := rl n tr ls b f (i / n)) (j := i % n) (f := fun j => f (n * (i / n) + j)) (by omega) hn4 (fun j hj => hf _ (by omega))
      exact this
    obtain ⟨c1, c2⟩ := hc i (by omega)
    have hlet := ga_lets_sp (n := nf) (g := 4) (x := f i) (H := hdm (rpa n tr ls b f) f (rpa n tr ls b f i) (n * t - i) i) (fo := fo) (m := m) hfi hH hfo hsc h4 h5
    have st0 : ju_breach_l12 4 46 (nf + 1) (jo n tr (rl n tr ls b f (i / n)) (fun j => f (n * (i / n) + j)) (i % n)) (nI i) m = if lwb n t fo tr ls b f i = true then (ju_soFar nf 4 46 (nI (i + 1)) (rm_i m 103 (rpa n tr ls b f i) (nI (bd (hdm (rpa n tr ls b f) f (rpa n tr ls b f i) (n * t - i) i) (2 ^ f i))))).bind fun (r20, m19) => ju_breach_l12 4 46 nf r20 (nI (i + 1)) m19 else some (.inl (nI i, m)) := by
      rw [ju_breach_l12]
      unfold ga_cards
      simp only [Option.bind_some]
      rw [h1, h2, pk_mul, if_pos (by rw [nI_ltI (by omega) (by omega)]; omega), if_pos ((in_n (by omega)).mpr (by omega)), if_pos ((in_n (by omega)).mpr (by omega)), nI_n (by omega), show m.1 (46 + 2) i = _ from c2, show m.1 (46 + 1) i = _ from c1, if_pos ((in_n (by omega)).mpr (by omega)), nI_n (by omega), hh _ (by omega), hlet]
      simp only [Option.bind_some]
      have hlw : lwb n t fo tr ls b f i = lts fo tr (if i % n = 0 then 4 else f (n * (i / n)) / 4) (f i) (hdm (rpa n tr ls b f) f (rpa n tr ls b f i) (n * t - i) i) := rfl
      by_cases q : lwb n t fo tr ls b f i = true
      · rw [if_pos q]
        rw [hlw] at q
        rw [if_neg (b10 q), if_pos ((in_n (by omega)).mpr (by omega)), if_pos ((in_n (by omega)).mpr (by omega)), if_pos ((in_n (by omega)).mpr (by omega)), hh _ (by omega), show m.1 (46 + 1) i = _ from c1, shl_1 (by omega), bd_n, nI_1]
      · rw [if_neg q]
        rw [hlw] at q
        rw [if_pos (b00 q)]
    rw [st0, ffl]
    by_cases q : lwb n t fo tr ls b f i = true
    · rw [if_pos q, if_pos q]
      have ko : ∀ x q, q ≠ 103 → (rm_i m 103 (rpa n tr ls b f i) x).1 q = m.1 q := by
        intro x q hq
        funext j
        rw [mi_get, if_neg (fun z => hq z.1)]
      rw [soFar_sp (n := n) (tr := tr) (P := i + 1) (p := rpa n tr ls b f) (f := f) (L := rl n tr ls b f) (by omega) hn hn4 (by omega) (by rw [ko _ 4 (by omega)]; exact h1) (by rw [ko _ 4 (by omega)]; exact h4) (fun j _ => rfl) (fun j hj => hf j (by omega)) (by
        intro j hj
        rw [ko _ (46 + 1) (by omega), ko _ (46 + 2) (by omega)]
        exact hc j (by omega))]
      simp only [Option.bind_some]
      have hrest : bd (hdm (rpa n tr ls b f) f (rpa n tr ls b f i) (n * t - i) i) (2 ^ f i) = hdm (rpa n tr ls b f) f (rpa n tr ls b f i) (n * t - (i + 1)) (i + 1) := by
        apply Nat.eq_of_testBit_eq
        intro x
        rw [bd_bit, Nat.testBit_two_pow]
        apply Bool.eq_iff_iff.mpr
        rw [Bool.and_eq_true, hdm_bit, hdm_bit, Bool.not_eq_true', decide_eq_false_iff_not]
        constructor
        · rintro ⟨⟨j, q1, q2, q3, q4⟩, q5⟩
          refine ⟨j, ?_, by omega, q3, q4⟩
          by_cases g : j = i
          · subst g
            exact absurd q4 q5
          · omega
        · rintro ⟨j, q1, q2, q3, q4⟩
          refine ⟨⟨j, by omega, by omega, q3, q4⟩, fun z => ?_⟩
          have := hinj i j (by omega) (by omega) (z.trans q4.symm)
          omega
      obtain ⟨m2, b1, b2⟩ := ih (i + 1) nf (rm_i m 103 (rpa n tr ls b f i) (nI (bd (hdm (rpa n tr ls b f) f (rpa n tr ls b f i) (n * t - i) i) (2 ^ f i)))) (by omega) (by omega) (by rw [ko _ 4 (by omega)]; exact h1) (by rw [ko _ 4 (by omega)]; exact h2) (by rw [ko _ 4 (by omega)]; exact h4) (by rw [ko _ 4 (by omega)]; exact h5) (by rw [ko _ 47 (by omega), ko _ 48 (by omega)]; exact hc) (by
        intro c hc4
        rw [mi_get]
        by_cases g : c = rpa n tr ls b f i
        · rw [if_pos ⟨rfl, g⟩, g, hrest]
        · rw [if_neg (fun z => g z.2), hh c hc4, show n * t - i = (n * t - (i + 1)) + 1 by omega, hdm, if_neg (fun z => g z.symm), Nat.zero_or])
      exact ⟨m2, b1, Kr.tr (Kr.rf.sti (by exact rfl)) b2⟩
    · rw [if_neg q, if_neg q]
      exact ⟨m, rfl, Kr.rf⟩
theorem breach_sp {n t fo tr ls b nf : Nat} {f : Nat → Nat} {m : rn_Mem} (hnf : 60 < nf) (hn : 2 ≤ n) (hn4 : n ≤ 4) (ht : t ≤ 4) (hs : n * t ≤ 12) (hfo : fo ≤ 2) (hb : b < n) (hf : ∀ i, i < n * t → f i < 16) (hinj : ∀ i j, i < n * t → j < n * t → f i = f j → i = j) (h1 : m.1 4 1 = nI n) (h2 : m.1 4 2 = nI t) (h4 : m.1 4 4 = cT tr) (h5 : m.1 4 5 = nI fo) (hc : ∀ i, i < n * t → m.1 47 i = nI (f i) ∧ m.1 48 i = nI (rpa n tr ls b f i)) : ∃ m2, ju_breach nf 4 46 m = some (match ffl (lwb n t fo tr ls b f) (n * t) 0 with | some j => nI j | none => -4, m2) ∧ Kr (fun p => p = 103) m m2 := by
  obtain ⟨m1, a1, a2, a3⟩ := deal_sp (q1 := 4) (q2 := 46) (n := n) (t := t) (i := 0) (nf := nf) (p := rpa n tr ls b f) (f := f) (m := m) (by omega) hs (by omega) (by omega) (fun i hi => by have := rpa_lt (tr := tr) (ls := ls) (b := b) (k := i) (f := f) (show 0 < n by omega); omega) hf h1 h2 hc
  have e4 : m1.1 4 = m.1 4 := (a3 4 (by omega)).1
  obtain ⟨m2, b1, b2⟩ := breach_l12_sp (ls := ls) (b := b) hn hn4 ht hs hfo hb hf hinj (n * t) 0 nf m1 (by omega) (by omega) (by rw [e4]; exact h1) (by rw [e4]; exact h2) (by rw [e4]; exact h4) (by rw [e4]; exact h5) (by rw [(a3 47 (by omega)).1, (a3 48 (by omega)).1]; exact hc) a2
  refine ⟨m2, ?_, a3.tr b2⟩
  unfold ju_breach
  rw [k0, a1]
  simp only [Option.bind_some]
  rw [Nat.zero_mod, show jo n tr (rl n tr ls b f (0 / n)) (fun j => f (n * (0 / n) + j)) 0 = -1 from mi1.symm] at b1
  rw [b1]
  cases ffl (lwb n t fo tr ls b f) (n * t) 0 <;> rfl
