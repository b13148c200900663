/-! ROW: the reference's laws, the sheet, all together -/
theorem uc_b {S S2 : Nat → Nat} (wg : WG S) (wt : WT S) (h9 : S 9 = 1) (h : ∀ k, (k = 1 ∨ (12 ≤ k ∧ k < 64)) → S2 k = S k) : uc S2 = uc S := by
  have hn := wg.2.1
  have hH : ∀ d, d < S 1 → S (12 + d) ≤ 12 := fun d hd => hp_le wg wt h9 hd
  unfold uc
  rw [h 1 (by omega)]
  refine fb_sm_cong fun d hd => ?_
  rw [h (12 + d) (by omega)]
  exact fb_ct_cong fun i hi => by rw [h (16 + 12 * d + i) (by have := hH d hd; omega)]
theorem WT_b {S S2 : Nat → Nat} (wg : WG S) (wt : WT S) (h : ∀ k, (k = 1 ∨ k = 2 ∨ k = 3 ∨ k = 9 ∨ (12 ≤ k ∧ k < 64)) → S2 k = S k) : WT S2 := by
  have hn := wg.2.1
  have e9 := h 9 (by omega)
  unfold WT
  rw [e9]
  refine ⟨wt.1, fun q => ?_⟩
  have hH : ∀ d, d < S 1 → S (12 + d) ≤ 12 := fun d hd => hp_le wg wt q hd
  rw [h 1 (by omega), h 2 (by omega), h 3 (by omega), uc_b wg wt q (fun k hk => h k (by omega))]
  have oh : ∀ d, d < S 1 → S2 (12 + d) = S (12 + d) := fun d hd => h _ (by omega)
  have oc : ∀ d i, d < S 1 → i < S (12 + d) → S2 (16 + 12 * d + i) = S (16 + 12 * d + i) := fun d i hd hi => h _ (by have := hH d hd; omega)
  obtain ⟨t1, t2, t3, t4, t5⟩ := wt.2 q
  refine ⟨fun d hd => by rw [oh d hd]; exact t1 d hd, ?_, fun d i hd hi => ?_, fun d i e j hd hi he hj q1 q2 => ?_, t5⟩
  · rw [fb_sm_cong (g := fun c => S (12 + c)) (fun d hd => oh d hd)]; exact t2
  · rw [oh d hd] at hi
    rw [oc d i hd hi]; exact t3 d i hd hi
  · rw [oh d hd] at hi
    rw [oh e he] at hj
    rw [oc d i hd hi] at q1 q2
    rw [oc e j he hj] at q2
    exact t4 d i e j hd hi he hj q1 q2
theorem cTa_b {S S2 : Nat → Nat} {t a b c : Nat → Int32} (hw : WF S) (h : ∀ k, (k = 1 ∨ k = 9 ∨ (12 ≤ k ∧ k < 64)) → S2 k = S k) (w : cTa S t a b c) : cTa S2 t a b c := by
  obtain ⟨t1, t2⟩ := w
  have e9 := h 9 (by omega)
  refine ⟨by rw [e9]; exact t1, fun q => ?_⟩
  rw [e9] at q
  obtain ⟨wg, wt, wc, wr⟩ := WF_1 hw (S9_1 hw q)
  have hn := wg.2.1
  have hH : ∀ d, d < S 1 → S (12 + d) ≤ 12 := fun d hd => hp_le wg wt q hd
  have oh : ∀ d, d < S 1 → S2 (12 + d) = S (12 + d) := fun d hd => h _ (by omega)
  have oc : ∀ d i, d < S 1 → i < S (12 + d) → S2 (16 + 12 * d + i) = S (16 + 12 * d + i) := fun d i hd hi => h _ (by have := hH d hd; omega)
  obtain ⟨f1, f2, f3, B, f4, f5, f6⟩ := t2 q
  rw [uc_b wg wt q (fun k hk => h k (by omega)), h 1 (by omega)]
  refine ⟨fun d hd => by rw [oh d hd]; exact f1 d hd, fun d i hd hi => ?_, f3, B, f4, f5, fun x hx => ?_⟩
  · rw [oh d hd] at hi
    rw [oc d i hd hi]; exact f2 d i hd hi
  · rw [f6 x hx]
    constructor
    · rintro ⟨d, i, hd, hi, e⟩
      exact ⟨d, i, hd, by rw [oh d hd]; exact hi, by rw [oc d i hd hi]; exact e⟩
    · rintro ⟨d, i, hd, hi, e⟩
      rw [oh d hd] at hi
      rw [oc d i hd hi] at e
      exact ⟨d, i, hd, hi, e⟩
theorem cSt_k {S V : Nat → Nat} {p : Nat} {m m2 : rn_Mem} (h : cSt S V p m) (hk : ∀ q, p + 1 ≤ q → q ≤ p + 15 → m2.1 q = m.1 q) : cSt S V p m2 := by
  unfold cSt at *
  rw [hk (p + 1) (by omega) (by omega), hk (p + 2) (by omega) (by omega), hk (p + 3) (by omega) (by omega), hk (p + 4) (by omega) (by omega), hk (p + 5) (by omega) (by omega), hk (p + 6) (by omega) (by omega), hk (p + 7) (by omega) (by omega), hk (p + 8) (by omega) (by omega), hk (p + 9) (by omega) (by omega), hk (p + 10) (by omega) (by omega), hk (p + 11) (by omega) (by omega), hk (p + 12) (by omega) (by omega), hk (p + 13) (by omega) (by omega), hk (p + 14) (by omega) (by omega), hk (p + 15) (by omega) (by omega)]
  exact h
theorem row_l161_sp {n t fo tr ls b : Nat} {f : Nat → Nat} {a1 : Int32} {m : rn_Mem} (hn : 2 ≤ n) (hn4 : n ≤ 4) (ht : t ≤ 4) (hs : n * t ≤ 12) (hfo : fo ≤ 2) (hb : b < n) (hf : ∀ i, i < n * t → f i < 16) (h1 : m.1 116 1 = nI n) (h2 : m.1 116 2 = nI t) (h4 : m.1 116 4 = zT tr) (h5 : m.1 116 5 = nI fo) (hc : ∀ i, i < n * t → m.1 138 i = nI (f i)) (hL : ∀ k, k < t → m.1 139 k = nI (rl n tr ls b f k)) : ∀ (r i nf : Nat), i + r = n * t → r + 30 < nf → mo_row_l161 a1 nf (nI i) m = some (match ffl (lwb n t fo tr ls b f) r i with | some j => .inl (nI j, m) | none => .inr m) := by
  intro r
  induction r with
  | zero =>
    intro i nf e hnf
    obtain ⟨nf, rfl⟩ : ∃ e, nf = e + 1 := ⟨nf - 1, by omega⟩
    unfold mo_row_l161 mo_size
    simp only [Option.bind_some]
    rw [h1, h2, pk_mul, if_neg (by rw [nI_ltI (by omega) (by omega)]; omega)]
    rfl
  | succ r ih =>
    intro i nf e hnf
    obtain ⟨nf, rfl⟩ : ∃ e, nf = e + 1 := ⟨nf - 1, by omega⟩
    have hp := rpa_lt (tr := tr) (ls := ls) (b := b) (k := i) (f := f) (show 0 < n by omega)
    have hfi := hf i (by omega)
    have hH := hdm_lt (p := rpa n tr ls b f) (f := f) (c := rpa n tr ls b f i) (r := n * t - i) (i := i) fun j q1 q2 => hf j (by omega)
    have hmod := Nat.mod_lt i (show n > 0 by omega)
    have hdm1 := Nat.div_add_mod i n
    have hk : i / n < t := by rw [Nat.div_lt_iff_lt_mul (by omega), Nat.mul_comm]; omega
    have hn0 : ¬ nI n = 0 := nI_ne0 (by omega) (by omega)
    obtain ⟨y, hy, hyf⟩ : ∃ y, (if rn_rem (nI i) (nI n) = 0 then some (-4) else if ¬ nI n = 0 then if rn_in (nI i - rn_rem (nI i) (nI n)) 13 = true then some (m.1 138 (nI i - rn_rem (nI i) (nI n)).toNatClampNeg) else none else none) = some y ∧ fc y (if i % n = 0 then 4 else f (n * (i / n)) / 4) := by
      rw [rem_n (by omega) (by omega) (by omega)]
      by_cases q : i % n = 0
      · exact ⟨-4, by rw [if_pos (by rw [q]; rfl)], by rw [if_pos q]; exact Or.inl ⟨mi4, rfl⟩⟩
      · refine ⟨nI (f (n * (i / n))), ?_, ?_⟩
        · rw [if_neg (nI_ne0 (by omega) (by omega)), if_pos hn0, pk_sub (by omega), if_pos ((in_n (by omega)).mpr (by omega)), nI_n (by omega), show i - i % n = n * (i / n) by omega, hc _ (by omega)]
        · rw [if_neg q]
          exact Or.inr ⟨_, rfl, hf _ (by omega), rfl⟩
    have hla := mo_lawful_sp (n := nf) (H := hdm (rpa n tr ls b f) f (rpa n tr ls b f i) (n * t - i) i) (fo := fo) (m := m) hH hfo hyf h4 h5
    have hlt := lwm_lt (fo := fo) (tr := tr) (s := if i % n = 0 then 4 else f (n * (i / n)) / 4) hH
    have hbit : (lwm fo tr (if i % n = 0 then 4 else f (n * (i / n)) / 4) (hdm (rpa n tr ls b f) f (rpa n tr ls b f i) (n * t - i) i)).testBit (f i) = lwb n t fo tr ls b f i := by
      rw [lwm_bit hfi, (hdm_bit).mpr ⟨i, by omega, by omega, rfl, rfl⟩, Bool.true_and]
      rfl
    unfold mo_row_l161 mo_size
    simp only [Option.bind_some]
    rw [h1, h2, pk_mul, if_pos (by rw [nI_ltI (by omega) (by omega)]; omega), if_pos hn0, hy]
    simp only [Option.bind_some]
    rw [playerAt_sp hn hn4 hb (by omega) (by omega) h1 (hL _ hk)]
    simp only [Option.bind_some]
    rw [handAt_sp (by omega) hn hn4 ht hs hb (by omega) (by rw [al138]; omega) (by omega) h1 h2 hL hf hc]
    simp only [Option.bind_some]
    rw [hla]
    simp only [Option.bind_some]
    rw [if_pos ((in_n (by omega)).mpr (by omega)), nI_n (by omega), hc i (by omega), ffl]
    simp only [bit_0 (show lwm fo tr (if i % n = 0 then 4 else f (n * (i / n)) / 4) (hdm (rpa n tr ls b f) f (rpa n tr ls b f i) (n * t - i) i) < 2 ^ 31 by omega) (show f i < 32 by omega), hbit, nI_1]
    cases q : lwb n t fo tr ls b f i with
    | true =>
      rw [if_neg (show ¬ true = false by decide), if_pos rfl]
      exact ih (i + 1) nf (by omega) (by omega)
    | false =>
      rw [if_pos rfl, if_neg (show ¬ false = true by decide)]
theorem row_l261_sp {n t : Nat} {f : Nat → Nat} (hs : n * t ≤ 12) (hn : 1 ≤ n) : ∀ (r i nf : Nat) (m : rn_Mem), i + r = n * t → r < nf → m.1 116 1 = nI n → m.1 116 2 = nI t → (∀ i, i < n * t → m.1 138 i = nI (f i)) → ∃ m2, mo_row_l261 nf (nI i) m = some m2 ∧ (∀ j, m2.1 116 j = if 89 + i ≤ j ∧ j < 89 + n * t then nI (f (j - 89)) else m.1 116 j) ∧ Kr (fun p => p = 116) m m2 := by
  intro r
  induction r with
  | zero =>
    intro i nf m e hnf h1 h2 hc
    obtain ⟨nf, rfl⟩ : ∃ e, nf = e + 1 := ⟨nf - 1, by omega⟩
    refine ⟨m, ?_, fun j => by rw [if_neg (by omega)], Kr.rf⟩
    unfold mo_row_l261 mo_size
    simp only [Option.bind_some]
    rw [h1, h2, pk_mul, if_neg (by rw [nI_ltI (by omega) (by omega)]; omega)]
  | succ r ih =>
    intro i nf m e hnf h1 h2 hc
    obtain ⟨nf, rfl⟩ : ∃ e, nf = e + 1 := ⟨nf - 1, by omega⟩
    obtain ⟨m2, b1, b2, b3⟩ := ih (i + 1) nf (rm_i m 116 (89 + i) (nI (f i))) (by omega) (by omega) (by rw [mi_get, if_neg (by omega)]; exact h1) (by rw [mi_get, if_neg (by omega)]; exact h2) (by
      intro j hj
      rw [mi_get, if_neg (by omega)]
      exact hc j hj)
    refine ⟨m2, ?_, fun j => ?_, Kr.tr (Kr.rf.sti (by exact rfl)) b3⟩
    · unfold mo_row_l261 mo_size
      simp only [Option.bind_some]
      rw [h1, h2, pk_mul, if_pos (by rw [nI_ltI (by omega) (by omega)]; omega), if_pos ((in_n (by omega)).mpr (by omega)), show (89 : Int32) + nI i = nI (89 + i) from nI_add 89 i, if_pos ((in_n (by omega)).mpr (by omega)), nI_n (by omega), nI_n (by omega), hc i (by omega), nI_1]
      exact b1
    · rw [b2, mi_get]
      by_cases g : j = 89 + i
      · rw [if_neg (by omega), if_pos ⟨rfl, g⟩, if_pos (by omega), g, show 89 + i - 89 = i by omega]
      · rw [if_neg (show ¬ (116 = 116 ∧ j = 89 + i) from fun z => g z.2)]
        by_cases g2 : 89 + (i + 1) ≤ j ∧ j < 89 + n * t
        · rw [if_pos g2, if_pos (by omega)]
        · rw [if_neg g2, if_neg (by omega)]
theorem refuse_sp {m m' : rn_Mem} {s sz : Nat} {c d : Int32} (hR : Rsh m) (e150 : m'.1 150 = m.1 150) (e151 : m'.1 151 = m.1 151) (hs : s < 4) (hsz : sz ≤ 12) (hc : 0 ≤ c.toInt ∧ c.toInt ≤ 2) :
    (∃ r : Int32, r < 0 ∧ ¬ r = 0 ∧ (∀ n, sh_refusal n (107 + 2 * s) c d (nI sz) m = some (r, m)) ∧ ∀ n, mo_lacksRow n (nI s) c d (nI sz) m' = some (r, m')) ∨
    (∃ fr, d = nI fr ∧ fr + sz ≤ 24 ∧ (∀ n, sh_refusal n (107 + 2 * s) c d (nI sz) m = some (0, m)) ∧ ∀ n, mo_lacksRow n (nI s) c d (nI sz) m' = some (0, m')) := by
  obtain ⟨h1, h2, h3, h4, _⟩ := hR s hs
  obtain ⟨k, hk, ek⟩ := i_nat (x := m.1 151 s) (k := 25) h3 (by omega)
  have hin : rn_in (nI s) 4 = true := (in_n (by omega)).mpr hs
  have hM : ∀ n, mo_lacksRow n (nI s) c d (nI sz) m' = if m.1 150 s = c then (mo_in n d.toInt64 0 ((nI k - nI sz).toInt64) m').bind fun (r5, m4) => if r5 = 0 then some ((-13 : Int32), m4) else some ((0 : Int32), m4) else if m.1 150 s < 0 then some ((-11 : Int32), m') else some ((-12 : Int32), m') := by
    intro n
    unfold mo_lacksRow
    rw [if_pos hin, if_pos hin, if_pos hin, nI_n (by omega), e150, e151, ek]
  have hsub : (nI k - nI sz).toInt = (k : Int) - sz := pk_sub_toInt (by omega) (by omega)
  rcases h1 with ⟨p1, p2⟩ | ⟨p1, p2, p3, p4⟩
  · left
    refine ⟨-11, by decide, by decide, fun n => ?_, fun n => ?_⟩
    · unfold sh_refusal
      rw [if_pos p1]
    · rw [hM, p2, if_neg (fun z => by rw [← z] at hc; exact absurd hc.1 (by decide)), if_pos (by decide)]
  by_cases q : m.1 150 s = c
  · have hL : ∀ n, sh_refusal n (107 + 2 * s) c d (nI sz) m = if d < 0 then some (-13, m) else if nI k - nI sz < d then some (-13, m) else some (0, m) := by
      intro n
      unfold sh_refusal
      rw [if_neg (by rw [p1]; decide), if_pos (by rw [← p2, q]), h2, ek]
    by_cases g : 0 ≤ d.toInt ∧ d.toInt ≤ (k : Int) - sz
    · right
      obtain ⟨fr, hfr, rfl⟩ := i_nat (x := d) (k := 25) g.1 (by omega)
      rw [nI_int (by omega)] at g
      refine ⟨fr, rfl, by omega, fun n => ?_, fun n => ?_⟩
      · rw [hL, if_neg (by rw [k0, nI_ltI (by omega) (by omega)]; omega), if_neg (by rw [i_lt, hsub, nI_int (by omega)]; omega)]
      · rw [hM, if_pos q, mo_in_j]
        simp only [Option.bind_some]
        rw [if_neg (b10 (by rw [Int32.toInt_toInt64, Int32.toInt_toInt64, hsub, nI_int (by omega), j0]; omega))]
    · left
      refine ⟨-13, by decide, by decide, fun n => ?_, fun n => ?_⟩
      · rw [hL]
        by_cases g2 : d < 0
        · rw [if_pos g2]
        · rw [if_neg g2, if_pos (by rw [i_lt, t0] at g2; rw [i_lt, hsub]; omega)]
      · rw [hM, if_pos q, mo_in_j]
        simp only [Option.bind_some]
        rw [if_pos (b00 (by rw [Int32.toInt_toInt64, Int32.toInt_toInt64, hsub, j0]; exact g))]
  · left
    refine ⟨-12, by decide, by decide, fun n => ?_, fun n => ?_⟩
    · unfold sh_refusal
      rw [if_neg (by rw [p1]; decide), if_neg (by rw [← p2]; exact q)]
    · rw [hM, if_neg q, if_neg (by rw [i_lt, t0]; omega)]
/-- with a row told -/
def Sr (S : Nat → Nat) (b : Nat) (f : Nat → Nat) : Nat → Nat := fun j => if j = 11 then 1 else if j = 88 then b else if 89 ≤ j ∧ j < 89 + S 1 * S 2 then f (j - 89) else S j
theorem Sr_o {S : Nat → Nat} {b j : Nat} {f : Nat → Nat} (h1 : j ≠ 11) (h2 : j < 88) : Sr S b f j = S j := by
  unfold Sr
  rw [if_neg h1, if_neg (by omega), if_neg (by omega)]
theorem Sr_r {S : Nat → Nat} {b i : Nat} {f : Nat → Nat} (h : i < S 1 * S 2) : Sr S b f (89 + i) = f i := by
  unfold Sr
  rw [if_neg (by omega), if_neg (by omega), if_pos (by omega), show 89 + i - 89 = i by omega]
theorem ffl_none {p : Nat → Bool} : ∀ {r j : Nat}, ffl p r j = none → ∀ i, j ≤ i → i < j + r → p i = true
  | 0, j, _, i, h1, h2 => by omega
  | r + 1, j, h, i, h1, h2 => by
    rw [ffl] at h
    split at h
    · by_cases q : i = j
      · subst q
        assumption
      · exact ffl_none h i (by omega) (by omega)
    · cases h
theorem nwb_inj {P N : Nat} {f : Nat → Nat} (h : ∀ i, i < N → nwb P f i = true) : (∀ i, i < N → P.testBit (f i) = true) ∧ ∀ i j, i < N → j < N → f i = f j → i = j := by
  have h' : ∀ i, i < N → P.testBit (f i) = true ∧ (msk f i).testBit (f i) = false := by
    intro i hi
    have := h i hi
    unfold nwb at this
    rw [Bool.and_eq_true, Bool.not_eq_true'] at this
    exact this
  have hl : ∀ i j, i < N → j < N → i < j → f i ≠ f j := by
    intro i j hi hj hij he
    have h2 := (h' j hj).2
    rw [(msk_bit (f := f) (x := f j) (j := j)).mpr ⟨i, hij, he⟩] at h2
    cases h2
  refine ⟨fun i hi => (h' i hi).1, fun i j hi hj he => ?_⟩
  rcases Nat.lt_trichotomy i j with q | q | q
  · exact absurd he (hl i j hi hj q)
  · exact q
  · exact absurd he.symm (hl j i hj hi q)
theorem Sr_WF {S : Nat → Nat} {b : Nat} {f : Nat → Nat} (hw : WF S) (h0 : S 0 = 1) (hb : b < S 1) (hf : ∀ i, i < S 1 * S 2 → f i < 16 ∧ (S 3).testBit (f i) = true) (hi : ∀ i j, i < S 1 * S 2 → j < S 1 * S 2 → f i = f j → i = j) : WF (Sr S b f) := by
  obtain ⟨wg, wt, wc, wr⟩ := WF_1 hw h0
  have o : ∀ j, j ≠ 11 → j < 88 → Sr S b f j = S j := fun j h1 h2 => Sr_o h1 h2
  refine Or.inr ⟨by rw [o 0 (by omega) (by omega)]; exact h0, ?_, WT_b wg wt (fun k hk => o k (by omega) (by omega)), ?_, ?_⟩
  · unfold WG at *
    simp (disch := omega) only [o]
    exact wg
  · unfold WC at *
    rw [o 10 (by omega) (by omega)]
    refine ⟨wc.1, fun k hk => ?_⟩
    have := wc.1
    have hq := wc.2 k hk
    unfold WK at *
    rw [o 1 (by omega) (by omega), o 2 (by omega) (by omega), o 3 (by omega) (by omega), o (64 + 4 * k) (by omega) (by omega), o (65 + 4 * k) (by omega) (by omega), o (66 + 4 * k) (by omega) (by omega), o (67 + 4 * k) (by omega) (by omega)]
    exact hq
  · unfold WR
    rw [show Sr S b f 11 = 1 by unfold Sr; rw [if_pos rfl], show Sr S b f 88 = b by unfold Sr; rw [if_neg (by omega), if_pos rfl], o 1 (by omega) (by omega), o 2 (by omega) (by omega), o 3 (by omega) (by omega)]
    refine ⟨by omega, fun _ => ⟨hb, fun i hi2 => ?_, fun i j h1 h2 h3 => ?_⟩⟩
    · rw [Sr_r hi2]
      exact hf i hi2
    · rw [Sr_r h1, Sr_r h2] at h3
      exact hi i j h1 h2 h3
def Pdr (p : Nat) : Prop := (46 ≤ p ∧ p ≤ 50) ∨ p = 103
def Prw (p : Nat) : Prop := Pdr p ∨ (14 ≤ p ∧ p ≤ 18)
def Pro (p : Nat) : Prop := p = 138 ∨ p = 139 ∨ p = 140
