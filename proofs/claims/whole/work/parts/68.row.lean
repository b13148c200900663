theorem C_row (S V : Nat → Nat) (m : rn_Mem) (hw : WF S) (hc : cSt S V 3 m) (hR : Rsh m) (a b c d : Int32) (n : Nat) (hn : 1000 < n) :
    (∃ r m1, lt_row n a b c d m = some (r, m1) ∧ Kr Pdr m m1 ∧ ∀ m', zOK S (m'.1 116) → m'.1 150 = m.1 150 → m'.1 151 = m.1 151 → m'.1 152 = m.1 152 → ∃ m2, mo_row n a b c d m' = some (r, m2) ∧ Kr Pro m' m2) ∨
    (∃ S2 m1, lt_row n a b c d m = some ((-4 : Int32), m1) ∧ WF S2 ∧ (∀ V, cSt S2 V 3 m1) ∧ (∀ j, j ≠ 11 → j < 88 → S2 j = S j) ∧ Kr Prw m m1 ∧ ∀ m', zOK S (m'.1 116) → m'.1 150 = m.1 150 → m'.1 151 = m.1 151 → m'.1 152 = m.1 152 → ∃ m2, mo_row n a b c d m' = some ((-4 : Int32), m2) ∧ zOK S2 (m2.1 116) ∧ Kr (fun p => Pro p ∨ p = 116) m' m2) := by
  have g0 := hc.1.1
  by_cases ha : 0 ≤ a.toInt ∧ a.toInt ≤ 3
  case neg =>
    refine Or.inl ⟨-1, m, ?_, Kr.rf, fun m' _ _ _ _ => ⟨m', ?_, Kr.rf⟩⟩
    · unfold lt_row
      rw [lt_isNoChair_eq, if_neg ha]
      rfl
    · unfold mo_row
      rw [mo_in_i n a 0 3 0 3 m' (by decide) (by decide), if_neg ha]
      rfl
  by_cases hbc : (0 ≤ b.toInt ∧ b.toInt ≤ 3) ∧ 0 ≤ c.toInt ∧ c.toInt ≤ 2
  case neg =>
    refine Or.inl ⟨-1, m, ?_, Kr.rf, fun m' _ _ _ _ => ⟨m', ?_, Kr.rf⟩⟩
    · unfold lt_row
      rw [lt_isNoChair_eq, if_pos ha]
      simp only [Option.bind_some, if_true]
      unfold lt_isNoSheet lt_isNoLane
      simp only [i_lt, t0, t1, t2, t3, t4, t5, t6, t7, t11, t12, t15, t16, t30, t65535, tm1]
      by_cases q1 : b.toInt < 0
      · rw [if_pos q1]
        rfl
      rw [if_neg q1]
      by_cases q2 : b.toInt < 4
      · rw [if_pos q2]
        simp only [Option.bind_some, if_true]
        by_cases q3 : c.toInt < 0
        · rw [if_pos q3]
          rfl
        · rw [if_neg q3, if_neg (by omega)]
          rfl
      · rw [if_neg q2]
        rfl
    · unfold mo_row mo_isSheet
      rw [mo_in_i n a 0 3 0 3 m' (by decide) (by decide), if_pos ha]
      simp only [Option.bind_some]
      rw [if_neg (by decide), mo_in_i n b 0 3 0 3 m' (by decide) (by decide)]
      simp only [Option.bind_some]
      by_cases q1 : 0 ≤ b.toInt ∧ b.toInt ≤ 3
      · rw [if_neg (b10 q1), mo_in_i n c 0 2 0 2 m' (by decide) (by decide)]
        simp only [Option.bind_some]
        rw [if_pos (b00 (fun z => hbc ⟨q1, z⟩))]
        rfl
      · rw [if_pos (b00 q1)]
        rfl
  obtain ⟨hb, hcc⟩ := hbc
  obtain ⟨B, hB, rfl⟩ := i_nat (x := a) (k := 4) ha.1 (by omega)
  obtain ⟨s, hs, rfl⟩ := i_nat (x := b) (k := 4) hb.1 (by omega)
  have hL : lt_row n (nI B) (nI s) c d m = if m.1 4 0 = 0 then some ((-2 : Int32), m) else if nI B < m.1 4 1 then (ga_cards n 4 m).bind fun (r17, m16) => (sh_refusal n (107 + 2 * s) c d r17 m16).bind fun (r20, m19) => if r20 = 0 then (ga_cards n 4 m19).bind fun (r25, m24) => (ro_read n 46 (nI B) (107 + 2 * s) d r25 m24).bind fun m27 => (ro_stranger n 46 4 m27).bind fun (r30, m29) => (show Option (Int32 × rn_Mem) from if r30 = (-4) then (ro_seat n 46 4 m29).bind fun m33 => (ju_breach n 4 46 m33).bind fun (r36, m35) => some (r36, m35) else some (r30, m29)).bind fun (x43, m44) => if x43 = (-4) then (ro_copy n 14 46 m44).bind fun m46 => some (x43, m46) else some (x43, m44) else some (r20, m19) else some ((-1 : Int32), m) := by
    unfold lt_row
    rw [lt_isNoChair_eq, if_pos ha]
    simp only [Option.bind_some, if_true]
    unfold lt_isNoSheet lt_isNoLane
    rw [if_neg (by rw [i_lt, t0]; omega), if_pos (by rw [i_lt, t4]; omega)]
    simp only [Option.bind_some, if_true]
    rw [if_neg (by rw [i_lt, t0]; omega), if_pos (by rw [i_lt, t3]; omega)]
    simp only [Option.bind_some, if_true]
    rw [if_pos ((in_n (by omega)).mpr hs), nI_n (by omega)]
    simp only [if_pos ((in_n (show s < 2 ^ 31 by omega)).mpr hs)]
  have hM : ∀ m', mo_row n (nI B) (nI s) c d m' = if m'.1 116 0 = 0 then some ((-2 : Int32), m') else (mo_isChair n (nI B) m').bind fun (r11, m10) => if r11 = 0 then some ((-1 : Int32), m10) else (mo_size n m10).bind fun (r15, m14) => (mo_lacksRow n (nI s) c d r15 m14).bind fun (r18, m17) => if r18 < 0 then some (r18, m17) else (mo_row_l72 (nI B) (nI s) d n 0 0 m17).bind fun q => match q with
            | .inl o => some o
            | .inr m37 =>
            (mo_size n m37).bind fun (r46, m45) =>
            (mo_findLeaders n 138 (nI B) r46 m45).bind fun m48 =>
            (mo_row_l161 (nI B) n 0 m48).bind fun q => match q with
            | .inl o => some o
            | .inr m80 =>
            (some (rm_i m80 116 88 (nI B))).bind fun (m88 : rn_Mem) =>
            (mo_row_l261 n 0 m88).bind fun m99 =>
            (some (rm_i m99 116 11 1)).bind fun (m108 : rn_Mem) =>
            some ((-4 : Int32), m108) := by
    intro m'
    unfold mo_row mo_isSheet
    rw [mo_in_i n _ 0 3 0 3 m' (by decide) (by decide), if_pos ha]
    simp only [Option.bind_some]
    rw [if_neg (by decide), mo_in_i n _ 0 3 0 3 m' (by decide) (by decide), if_pos hb]
    simp only [Option.bind_some]
    rw [if_neg (by decide), mo_in_i n c 0 2 0 2 m' (by decide) (by decide), if_pos hcc]
    simp only [Option.bind_some]
    rw [if_neg (show ¬ (1 : Int32) = 0 by decide)]
    simp only [Option.bind_some]
    rw [if_neg (show ¬ (1 : Int32) = 0 by decide)]
    rfl
  rcases S0_01 hw with h0 | h0
  · refine Or.inl ⟨-2, m, ?_, Kr.rf, fun m' hz _ _ _ => ⟨m', ?_, Kr.rf⟩⟩
    · rw [hL, if_pos (by rw [show m.1 4 0 = _ from g0, h0]; rfl)]
    · rw [hM, if_pos (by rw [zOK_at hz (by omega) (by omega) (by omega) (by omega), h0]; rfl)]
  obtain ⟨wg, wt, wc, wr⟩ := WF_1 hw h0
  obtain ⟨h1, h2, h3, h4, h5, h6, h7, h8, h9, h10, h11, h12⟩ := wg
  have wg : WG S := ⟨h1, h2, h3, h4, h5, h6, h7, h8, h9, h10, h11, h12⟩
  obtain ⟨e1, e2, e3, e4, e5, e6, e7, e8⟩ := hc.1.2 h0
  rw [if_neg (by rw [show m.1 4 0 = _ from g0, h0]; decide), show m.1 4 1 = _ from e1] at hL
  by_cases hBn : B < S 1
  case neg =>
    refine Or.inl ⟨-1, m, ?_, Kr.rf, fun m' hz _ _ _ => ⟨m', ?_, Kr.rf⟩⟩
    · rw [hL, if_neg (mt (nI_ltI (by omega) (by omega)).mp hBn)]
    · rw [hM, if_neg (by rw [zOK_at hz (by omega) (by omega) (by omega) (by omega), h0]; decide), mo_isChair_eq n S (nI B) m' (zOK_at hz (by omega) (by omega) (by omega) (by omega)) (by omega), if_neg (by rw [nI_int (by omega)]; omega)]
      rfl
  rw [if_pos ((nI_ltI (by omega) (by omega)).mpr hBn)] at hL
  unfold ga_cards at hL
  simp only [Option.bind_some] at hL
  rw [show m.1 4 1 = _ from e1, show m.1 4 2 = _ from e2, pk_mul] at hL
  have hM2 : ∀ m', zOK S (m'.1 116) → mo_row n (nI B) (nI s) c d m' = (mo_lacksRow n (nI s) c d (nI (S 1 * S 2)) m').bind fun (r18, m17) => if r18 < 0 then some (r18, m17) else (mo_row_l72 (nI B) (nI s) d n 0 0 m17).bind fun q => match q with
            | .inl o => some o
            | .inr m37 =>
            (mo_size n m37).bind fun (r46, m45) =>
            (mo_findLeaders n 138 (nI B) r46 m45).bind fun m48 =>
            (mo_row_l161 (nI B) n 0 m48).bind fun q => match q with
            | .inl o => some o
            | .inr m80 =>
            (some (rm_i m80 116 88 (nI B))).bind fun (m88 : rn_Mem) =>
            (mo_row_l261 n 0 m88).bind fun m99 =>
            (some (rm_i m99 116 11 1)).bind fun (m108 : rn_Mem) =>
            some ((-4 : Int32), m108) := by
    intro m' hz
    rw [hM, if_neg (by rw [zOK_at hz (by omega) (by omega) (by omega) (by omega), h0]; decide), mo_isChair_eq n S (nI B) m' (zOK_at hz (by omega) (by omega) (by omega) (by omega)) (by omega), if_pos (by rw [nI_int (by omega)]; omega)]
    simp only [Option.bind_some]
    rw [if_neg (by decide)]
    unfold mo_size
    simp only [Option.bind_some]
    rw [zOK_at hz (k := 1) (by omega) (by omega) (by omega) (by omega), zOK_at hz (k := 2) (by omega) (by omega) (by omega) (by omega), pk_mul]
  rcases refuse_sp (m := m) (m' := m) (d := d) hR rfl rfl hs h5 hcc with ⟨r, r1, r2, r3, r4⟩ | ⟨fr, rfl, hfr, r3, r4⟩
  · refine Or.inl ⟨r, m, ?_, Kr.rf, fun m' hz q1 q2 _ => ⟨m', ?_, Kr.rf⟩⟩
    · rw [hL, r3]
      simp only [Option.bind_some]
      rw [if_neg r2]
    · rcases refuse_sp (m := m) (m' := m') (d := d) hR q1 q2 hs h5 hcc with ⟨r', r1', r2', r3', r4'⟩ | ⟨fr, rfl, hfr, r3', r4'⟩
      · have : r' = r := by
          have := r3 n
          rw [r3' n] at this
          cases this
          rfl
        rw [hM2 m' hz, r4', this]
        simp only [Option.bind_some]
        rw [if_pos r1]
      · have := r3 n
        rw [r3' n] at this
        cases this
        exact absurd rfl r2
  rw [r3] at hL
  simp only [Option.bind_some, if_true] at hL
  rw [show m.1 4 1 = _ from e1, show m.1 4 2 = _ from e2, pk_mul] at hL
  have hM3 : ∀ m', zOK S (m'.1 116) → m'.1 150 = m.1 150 → m'.1 151 = m.1 151 → mo_row n (nI B) (nI s) c (nI fr) m' = (mo_row_l72 (nI B) (nI s) (nI fr) n 0 0 m').bind fun q => match q with
            | .inl o => some o
            | .inr m37 =>
            (mo_size n m37).bind fun (r46, m45) =>
            (mo_findLeaders n 138 (nI B) r46 m45).bind fun m48 =>
            (mo_row_l161 (nI B) n 0 m48).bind fun q => match q with
            | .inl o => some o
            | .inr m80 =>
            (some (rm_i m80 116 88 (nI B))).bind fun (m88 : rn_Mem) =>
            (mo_row_l261 n 0 m88).bind fun m99 =>
            (some (rm_i m99 116 11 1)).bind fun (m108 : rn_Mem) =>
            some ((-4 : Int32), m108) := by
    intro m' hz q1 q2
    have : mo_lacksRow n (nI s) c (nI fr) (nI (S 1 * S 2)) m' = some (0, m') := by
      rcases refuse_sp (m := m) (m' := m') (d := nI fr) hR q1 q2 hs h5 hcc with ⟨r', r1', r2', r3', r4'⟩ | ⟨fr', _, _, r3', r4'⟩
      · have := r3 n
        rw [r3' n] at this
        cases this
        exact absurd rfl r2'
      · exact r4' n
    rw [hM2 m' hz, this]
    simp only [Option.bind_some]
    rw [if_neg (by decide)]
  -- the cards of the sheet
  obtain ⟨x, hx⟩ : ∃ x : Nat → Int32, ∀ i, x i = m.1 (107 + 2 * s + 1) (fr + i) := ⟨fun i => m.1 (107 + 2 * s + 1) (fr + i), fun i => rfl⟩
  obtain ⟨f, hf⟩ : ∃ f : Nat → Nat, f = fun i => cd (x i) := ⟨_, rfl⟩
  have hx152 : ∀ i, i < S 1 * S 2 → m.1 152 (24 * s + fr + i) = x i := by
    intro i hi
    have := (hR s hs).2.2.2.2 (fr + i) (by omega)
    rw [hx i, this, show 24 * s + (fr + i) = 24 * s + fr + i by omega]
  obtain ⟨m1, a1, a2, a3, a4, a5, a6⟩ := ro_read_sp (q2 := 107 + 2 * s) (fr := fr) (sz := S 1 * S 2) (nf := n) (b := B) (m := m) (by omega) (by omega) h5 hfr
  have k4 : m1.1 4 = m.1 4 := (a6 4 (by unfold Prd; omega)).1
  have st := stranger_l4_sp (n := S 1) (t := S 2) (P := S 3) (x := x) (m := m1) h5 h6 (by rw [k4]; exact e1) (by rw [k4]; exact e2) (by rw [k4]; exact e3) (fun i hi => by rw [a4 i hi, hx i]) (S 1 * S 2) 0 n (by omega) (by omega) (by intro j hj; omega)
  rw [show nI (msk (fun i => cd (x i)) 0) = 0 from rfl, show nI 0 = 0 from rfl, ← hf] at st
  have str : ro_stranger n 46 4 m1 = some (match ffl (nwb (S 3) f) (S 1 * S 2) 0 with | some j => nI j | none => -4, m1) := by
    unfold ro_stranger
    rw [st]
    cases ffl (nwb (S 3) f) (S 1 * S 2) 0 <;> rfl
  rw [a1] at hL
  simp only [Option.bind_some] at hL
  rw [str] at hL
  simp only [Option.bind_some] at hL
  have hjb : ∀ (p : Nat → Bool) r i j, ffl p r i = some j → j < i + r := by
    intro p r
    induction r with
    | zero => intro i j h; cases h
    | succ r ih =>
      intro i j h
      rw [ffl] at h
      split at h
      · have := ih _ _ h; omega
      · cases h; omega
  have n4 : ∀ j, j < 12 → ¬ nI j = -4 := by
    intro j hj
    rw [mi4, eq_nm (by omega) (by omega) (by omega)]
    exact id
  -- the reference's first loop
  have ref1 : ∀ m', zOK S (m'.1 116) → m'.1 152 = m.1 152 → ∃ m2, Kr (fun p => p = 138) m' m2 ∧ mo_row_l72 (nI B) (nI s) (nI fr) n 0 0 m' = some (match ffl (nwb (S 3) f) (S 1 * S 2) 0 with | some j => .inl (nI j, m2) | none => .inr m2) ∧ (ffl (nwb (S 3) f) (S 1 * S 2) 0 = none → ∀ j, j < S 1 * S 2 → m2.1 138 j = x j) := by
    intro m' hz q
    obtain ⟨m2, b1, b2, b3⟩ := row_l72_sp (n := S 1) (t := S 2) (P := S 3) (s := s) (fr := fr) (x := x) (a1 := nI B) hs h5 hfr h6 (S 1 * S 2) 0 n m' (by omega) (by omega) (zOK_at hz (by omega) (by omega) (by omega) (by omega)) (zOK_at hz (by omega) (by omega) (by omega) (by omega)) (zOK_at hz (by omega) (by omega) (by omega) (by omega)) (by rw [q]; exact hx152) (by intro j hj; omega)
    rw [show nI (msk (fun i => cd (x i)) 0) = 0 from rfl, show nI 0 = 0 from rfl, ← hf] at b2
    rw [← hf] at b3
    exact ⟨m2, b1, b2, b3⟩
  cases q1 : ffl (nwb (S 3) f) (S 1 * S 2) 0 with
  | some j =>
    have hj := hjb _ _ _ _ q1
    rw [q1] at hL
    simp only [] at hL
    rw [if_neg (n4 j (by omega))] at hL
    simp only [Option.bind_some] at hL
    rw [if_neg (n4 j (by omega))] at hL
    refine Or.inl ⟨nI j, m1, hL, a6.mono (fun p hp => ?_), fun m' hz p1 p2 p3 => ?_⟩
    · unfold Prd at hp
      unfold Pdr
      omega
    · obtain ⟨m2, b1, b2, b3⟩ := ref1 m' hz p3
      rw [q1] at b2
      refine ⟨m2, ?_, b1.mono fun p hp => Or.inl hp⟩
      rw [hM3 m' hz p1 p2, b2]
      rfl
  | none =>
    rw [q1] at hL
    simp only [if_true] at hL
    obtain ⟨i1, i2⟩ := nwb_inj (P := S 3) (N := S 1 * S 2) (f := f) (fun i hi => ffl_none q1 i (by omega) (by omega))
    have hf16 : ∀ i, i < S 1 * S 2 → f i < 16 := fun i hi => bit16 h6 (i1 i hi)
    have hxf : ∀ i, i < S 1 * S 2 → x i = nI (f i) := by
      intro i hi
      have := hf16 i hi
      rw [hf] at this ⊢
      exact cd_n this
    obtain ⟨m2, b1, b2, b3⟩ := seat_sp (n := S 1) (t := S 2) (tr := S 4) (ls := S 6) (b := B) (nf := n) (f := f) (m := m1) (by omega) h1 h2 h4 h5 (by omega) hBn hf16 (by rw [k4]; exact e1) (by rw [k4]; exact e2) (by rw [k4]; exact e4) (by rw [k4]; exact e6) a3 (fun i hi => by rw [a4 i hi, ← hx i]; exact hxf i hi)
    have k4b : m2.1 4 = m.1 4 := by rw [(b3 4 (by unfold Pst; omega)).1, k4]
    have c47 : ∀ i, i < S 1 * S 2 → m2.1 47 i = nI (f i) := fun i hi => by rw [(b3 47 (by unfold Pst; omega)).1, a4 i hi, ← hx i]; exact hxf i hi
    obtain ⟨m3, c1, c2⟩ := breach_sp (n := S 1) (t := S 2) (fo := S 5) (tr := S 4) (ls := S 6) (b := B) (nf := n) (f := f) (m := m2) (by omega) h1 h2 h4 h5 h8 hBn hf16 i2 (by rw [k4b]; exact e1) (by rw [k4b]; exact e2) (by rw [k4b]; exact e4) (by rw [k4b]; exact e5) (fun i hi => ⟨c47 i hi, (b2 i hi).1⟩)
    rw [b1] at hL
    simp only [Option.bind_some] at hL
    rw [c1] at hL
    simp only [Option.bind_some] at hL
    have kr3 : Kr Pdr m m3 := by
      refine ((a6.mono fun p hp => ?_).tr (b3.mono fun p hp => ?_)).tr (c2.mono fun p hp => ?_)
      · unfold Prd at hp; unfold Pdr; omega
      · unfold Pst at hp; unfold Pdr; omega
      · unfold Pdr; omega
    -- the reference's second loop
    have ref2 : ∀ m', zOK S (m'.1 116) → m'.1 152 = m.1 152 → ∃ m2 m4, mo_row_l72 (nI B) (nI s) (nI fr) n 0 0 m' = some (.inr m2) ∧ (mo_size n m2).bind (fun (r46, m45) => mo_findLeaders n 138 (nI B) r46 m45) = some m4 ∧ Kr Pro m' m4 ∧ (∀ i, i < S 1 * S 2 → m4.1 138 i = nI (f i)) ∧ mo_row_l161 (nI B) n 0 m4 = some (match ffl (lwb (S 1) (S 2) (S 5) (S 4) (S 6) B f) (S 1 * S 2) 0 with | some j => .inl (nI j, m4) | none => .inr m4) := by
      intro m' hz p3
      obtain ⟨m2, b1, b2, b3⟩ := ref1 m' hz p3
      rw [q1] at b2
      have z2 : m2.1 116 = m'.1 116 := (b1 116 (by omega)).1
      have t138 : ∀ i, i < S 1 * S 2 → m2.1 138 i = nI (f i) := fun i hi => by rw [b3 q1 i hi]; exact hxf i hi
      have hd : S 1 * S 2 / S 1 = S 2 := Nat.mul_div_cancel_left _ (by omega)
      obtain ⟨m4, d1, d2, d3, d4⟩ := findLeaders_sp (q := 138) (P := S 1 * S 2) (n := S 1) (tr := S 4) (ls := S 6) (b := B) (nf := n) (f := f) (m := m2) (by omega) h1 h2 h5 (by omega) (by omega) hBn (by rw [al138]; omega) (by omega) hf16 t138 (by rw [z2]; exact zOK_at hz (by omega) (by omega) (by omega) (by omega)) (by rw [z2]; exact hz.2.1) (by rw [z2]; exact zOK_at hz (by omega) (by omega) (by omega) (by omega))
      rw [hd] at d2
      have z4 : m4.1 116 = m'.1 116 := by rw [(d4 116 (by unfold Pfl; omega)).1, z2]
      have u138 : ∀ i, i < S 1 * S 2 → m4.1 138 i = nI (f i) := fun i hi => by rw [(d4 138 (by unfold Pfl; omega)).1]; exact t138 i hi
      refine ⟨m2, m4, b2, ?_, ?_, u138, ?_⟩
      · unfold mo_size
        simp only [Option.bind_some]
        rw [z2, zOK_at hz (k := 1) (by omega) (by omega) (by omega) (by omega), zOK_at hz (k := 2) (by omega) (by omega) (by omega) (by omega), pk_mul]
        exact d1
      · refine (b1.mono fun p hp => ?_).tr (d4.mono fun p hp => ?_)
        · exact Or.inl hp
        · rcases hp with hp | hp
          · exact Or.inr (Or.inl hp)
          · exact Or.inr (Or.inr hp)
      · have := row_l161_sp (n := S 1) (t := S 2) (fo := S 5) (tr := S 4) (ls := S 6) (b := B) (f := f) (a1 := nI B) (m := m4) h1 h2 h4 h5 h8 hBn hf16 (by rw [z4]; exact zOK_at hz (by omega) (by omega) (by omega) (by omega)) (by rw [z4]; exact zOK_at hz (by omega) (by omega) (by omega) (by omega)) (by rw [z4]; exact hz.2.1) (by rw [z4]; exact zOK_at hz (by omega) (by omega) (by omega) (by omega)) u138 (fun k hk => d2 k (by omega)) (S 1 * S 2) 0 n (by omega) (by omega)
        exact this
    cases q2 : ffl (lwb (S 1) (S 2) (S 5) (S 4) (S 6) B f) (S 1 * S 2) 0 with
    | some j =>
      have hj := hjb _ _ _ _ q2
      rw [q2] at hL
      simp only [] at hL
      rw [if_neg (n4 j (by omega))] at hL
      refine Or.inl ⟨nI j, m3, hL, kr3, fun m' hz p1 p2 p3 => ?_⟩
      obtain ⟨u2, u4, v1, v2, v3, v4, v5⟩ := ref2 m' hz p3
      rw [q2] at v5
      refine ⟨u4, ?_, v3⟩
      rw [hM3 m' hz p1 p2, v1]
      simp only [Option.bind_some]
      unfold mo_size at v2 ⊢
      simp only [Option.bind_some] at v2 ⊢
      rw [v2]
      simp only [Option.bind_some]
      rw [v5]
      rfl
    | none =>
      rw [q2] at hL
      simp only [if_true] at hL
      obtain ⟨m5, w1, w2, w3, w4, w5, w6⟩ := ro_copy_sp (n := n) (q := 14) (p := 46) (m := m3) (by omega) (Or.inr (by
        rw [(c2 46 (by omega)).1, (b3 46 (by unfold Pst; omega)).1]
        exact a2))
      rw [w1] at hL
      simp only [Option.bind_some] at hL
      have o : ∀ j, j ≠ 11 → j < 88 → Sr S B f j = S j := fun j p1 p2 => Sr_o p1 p2
      have S11 : Sr S B f 11 = 1 := by unfold Sr; rw [if_pos rfl]
      have S88 : Sr S B f 88 = B := by unfold Sr; rw [if_neg (by omega), if_pos rfl]
      have k5 : ∀ q, (q < 14 ∨ 18 < q) → ¬ Pdr q → m5.1 q = m.1 q := by
        intro q g1 g2
        rw [w6 q (by omega), (kr3 q g2).1]
      refine Or.inr ⟨Sr S B f, m5, hL, Sr_WF hw h0 hBn (fun i hi => ⟨hf16 i hi, i1 i hi⟩) i2, fun V => ⟨?_, ?_, ?_, ?_⟩, o, ?_, fun m' hz p1 p2 p3 => ?_⟩
      · rw [k5 (3 + 1) (by omega) (by unfold Pdr; omega)]
        unfold cGa
        rw [o 0 (by omega) (by omega), o 1 (by omega) (by omega), o 2 (by omega) (by omega), o 3 (by omega) (by omega), o 4 (by omega) (by omega), o 5 (by omega) (by omega), o 6 (by omega) (by omega), o 7 (by omega) (by omega), o 8 (by omega) (by omega)]
        exact hc.1
      · rw [k5 (3 + 2) (by omega) (by unfold Pdr; omega), k5 (3 + 3) (by omega) (by unfold Pdr; omega), k5 (3 + 4) (by omega) (by unfold Pdr; omega), k5 (3 + 5) (by omega) (by unfold Pdr; omega)]
        exact cTa_b hw (fun k hk => o k (by omega) (by omega)) hc.2.1
      · rw [k5 (3 + 6) (by omega) (by unfold Pdr; omega), k5 (3 + 7) (by omega) (by unfold Pdr; omega), k5 (3 + 8) (by omega) (by unfold Pdr; omega), k5 (3 + 9) (by omega) (by unfold Pdr; omega), k5 (3 + 10) (by omega) (by unfold Pdr; omega)]
        obtain ⟨u1, u2⟩ := hc.2.2.1
        refine ⟨by rw [o 10 (by omega) (by omega)]; exact u1, fun k hk => ?_⟩
        rw [o 10 (by omega) (by omega)] at hk
        have := wc.1
        rw [o (64 + 4 * k) (by omega) (by omega), o (65 + 4 * k) (by omega) (by omega), o (66 + 4 * k) (by omega) (by omega), o (67 + 4 * k) (by omega) (by omega)]
        exact u2 k hk
      · have r14 : m5.1 14 0 = 1 ∧ m5.1 14 1 = nI B := by
          rw [w3.1, w3.2, (c2 46 (by omega)).1, (b3 46 (by unfold Pst; omega)).1]
          exact ⟨a2, a3⟩
        refine ⟨by rw [S11]; exact r14.1, fun _ => ?_⟩
        rw [S88, o 1 (by omega) (by omega), o 2 (by omega) (by omega)]
        refine ⟨r14.2, fun i hi => ?_, fun i hi => ?_⟩
        · have hk : i / S 1 < S 2 := by rw [Nat.div_lt_iff_lt_mul (by omega), Nat.mul_comm]; exact hi
          have hkk := kn (n := S 1) hk
          have hdm := Nat.div_add_mod i (S 1)
          have x1 := w4 1 i (by omega) (by omega) (by omega)
          have x2 := w4 2 i (by omega) (by omega) (by omega)
          have x3 := w4 3 i (by omega) (by omega) (by omega)
          rw [show (46 : Nat) + 1 = 47 from rfl, (c2 47 (by omega)).1, c47 i hi] at x1
          rw [show (46 : Nat) + 2 = 48 from rfl, (c2 48 (by omega)).1, (b2 i hi).1] at x2
          rw [show (46 : Nat) + 3 = 49 from rfl, (c2 49 (by omega)).1, (b2 i hi).2] at x3
          refine ⟨?_, ?_, ?_⟩
          · rw [Sr_r hi]; exact x1
          · rw [show Sp (Sr S B f) i = rpa (S 1) (S 4) (S 6) B f i by
              unfold Sp
              rw [o 1 (by omega) (by omega), o 4 (by omega) (by omega), o 6 (by omega) (by omega), S88]
              exact rpa_c fun j hj => Sr_r (by omega)]
            exact x2
          · rw [show Sw (Sr S B f) (i / S 1) = rwn (S 1) (S 4) (S 6) B f (i / S 1) by
              unfold Sw
              rw [o 1 (by omega) (by omega), o 4 (by omega) (by omega), o 6 (by omega) (by omega), S88]
              exact rwn_c (by omega) fun j hj => Sr_r (by omega)]
            exact x3
        · left
          have x4 := w4 4 i (by omega) (by omega) (by omega)
          rw [show (46 : Nat) + 4 = 50 from rfl, (c2 50 (by omega)).1, (b3 50 (by unfold Pst; omega)).1, a5 i (by omega), mi1] at x4
          exact x4
      · refine (kr3.mono fun p hp => Or.inl hp).tr ?_
        intro p hp
        refine ⟨w6 p ?_, by rw [w2]⟩
        have hp : ¬ (Pdr p ∨ 14 ≤ p ∧ p ≤ 18) := hp
        omega
      · obtain ⟨u2, u4, v1, v2, v3, v4, v5⟩ := ref2 m' hz p3
        rw [q2] at v5
        have z4 : u4.1 116 = m'.1 116 := (v3 116 (by unfold Pro; omega)).1
        obtain ⟨u5, y1, y2, y3⟩ := row_l261_sp (n := S 1) (t := S 2) (f := f) h5 (by omega) (S 1 * S 2) 0 n (rm_i u4 116 88 (nI B)) (by omega) (by omega) (by rw [mi_get, if_neg (by omega), z4]; exact zOK_at hz (by omega) (by omega) (by omega) (by omega)) (by rw [mi_get, if_neg (by omega), z4]; exact zOK_at hz (by omega) (by omega) (by omega) (by omega)) (by
          intro i hi
          rw [mi_get, if_neg (by omega)]
          exact v4 i hi)
        refine ⟨rm_i u5 116 11 1, ?_, ?_, ?_⟩
        · rw [hM3 m' hz p1 p2, v1]
          simp only [Option.bind_some]
          unfold mo_size at v2 ⊢
          simp only [Option.bind_some] at v2 ⊢
          rw [v2]
          simp only [Option.bind_some]
          rw [v5]
          simp only [Option.bind_some]
          rw [k0, y1]
          rfl
        · have hr : ∀ j, (rm_i u5 116 11 1).1 116 j = if j = 11 then 1 else if 89 ≤ j ∧ j < 89 + S 1 * S 2 then nI (f (j - 89)) else if j = 88 then nI B else m'.1 116 j := by
            intro j
            rw [mi_get]
            by_cases t1 : j = 11
            · rw [if_pos ⟨rfl, t1⟩, if_pos t1]
            · rw [if_neg (fun z => t1 z.2), if_neg t1, y2]
              by_cases t2 : 89 ≤ j ∧ j < 89 + S 1 * S 2
              · rw [if_pos (by omega), if_pos t2]
              · rw [if_neg (by omega), if_neg t2, mi_get]
                by_cases t3 : j = 88
                · rw [if_pos ⟨rfl, t3⟩, if_pos t3]
                · rw [if_neg (fun z => t3 z.2), if_neg t3, z4]
          obtain ⟨z1, z2, z3, z4'⟩ := hz
          refine ⟨fun j l1 l2 l3 l4 => ?_, ?_, ?_, fun j l1 l2 => ?_⟩
          · rw [hr]
            by_cases t1 : j = 11
            · rw [if_pos t1, t1, S11]; rfl
            rw [if_neg t1]
            by_cases t2 : 89 ≤ j ∧ j < 89 + S 1 * S 2
            · have t3 := Sr_r (S := S) (b := B) (f := f) (i := j - 89) (by omega)
              rw [show 89 + (j - 89) = j by omega] at t3
              rw [if_pos t2, t3]
            rw [if_neg t2]
            by_cases t3 : j = 88
            · rw [if_pos t3, t3, S88]
            · rw [if_neg t3, z1 j l1 l2 l3 l4]
              unfold Sr
              rw [if_neg t1, if_neg t3, if_neg t2]
          · rw [hr, if_neg (by omega), if_neg (by omega), if_neg (by omega), o 4 (by omega) (by omega)]; exact z2
          · rw [hr, if_neg (by omega), if_neg (by omega), if_neg (by omega), o 8 (by omega) (by omega)]; exact z3
          · rw [hr, if_neg (by omega), if_neg (by omega), if_neg (by omega), o j (by omega) (by omega)]; exact z4' j l1 l2
        · refine ((v3.mono fun p hp => Or.inl hp).tr (Kr.tr (Kr.rf.sti (p := 116) ?_) (y3.mono fun p hp => Or.inr hp))).sti (p := 116) ?_
          · exact Or.inr rfl
          · exact Or.inr rfl
