/-! THE ROW: leaders, winners, players; who, count 2 -/
theorem kn {k t n : Nat} (h : k < t) : n * k + n ≤ n * t := by
  have := Nat.mul_le_mul_left n (show k + 1 ≤ t by omega)
  rw [Nat.mul_add, Nat.mul_one] at this
  exact this
theorem rl_lt {n tr ls b : Nat} {f : Nat → Nat} (hn : 0 < n) (hb : b < n) : ∀ k, rl n tr ls b f k < n
  | 0 => hb
  | k + 1 => by
    rw [rl]
    split <;> exact Nat.mod_lt _ hn
theorem rwn_lt {n tr ls b k : Nat} {f : Nat → Nat} (hn : 0 < n) : rwn n tr ls b f k < n := Nat.mod_lt _ hn
theorem rpa_lt {n tr ls b k : Nat} {f : Nat → Nat} (hn : 0 < n) : rpa n tr ls b f k < n := Nat.mod_lt _ hn
def Pfl (p : Nat) : Prop := p = 139 ∨ p = 140
theorem findLeaders_l10_sp {q P n tr ls b : Nat} {f : Nat → Nat} {z c : Nat → Int32} (hn : 2 ≤ n) (hn4 : n ≤ 4) (hP : P ≤ 12) (hK : P / n ≤ 4) (hls : ls < 2) (hb : b < n) (hal : P ≤ rn_al q) (hq : q ≠ 139 ∧ q ≠ 140) (hf : ∀ i, i < P → f i < 16) (hc : ∀ i, i < P → c i = nI (f i)) (z1 : z 1 = nI n) (z4 : z 4 = zT tr) (z6 : z 6 = nI ls) : ∀ (r k nf : Nat) (m : rn_Mem), k + r = P / n → r + 10 < nf → m.1 116 = z → m.1 q = c → (∀ i, i ≤ k → m.1 139 i = nI (rl n tr ls b f i)) → (∀ i, i < k → m.1 140 i = nI (rwn n tr ls b f i)) → ∃ m2, mo_findLeaders_l10 q (nI P) nf (nI k) m = some m2 ∧ (∀ i, i ≤ P / n → m2.1 139 i = nI (rl n tr ls b f i)) ∧ (∀ i, i < P / n → m2.1 140 i = nI (rwn n tr ls b f i)) ∧ Kr Pfl m m2 := by
  intro r
  induction r with
  | zero =>
    intro k nf m e hnf hz hcq h1 h2
    obtain ⟨nf, rfl⟩ : ∃ e, nf = e + 1 := ⟨nf - 1, by omega⟩
    obtain rfl : k = P / n := by omega
    refine ⟨m, ?_, h1, h2, Kr.rf⟩
    have h3 : P < (P / n + 1) * n := by
      rw [Nat.mul_comm]
      exact Nat.lt_mul_div_succ P (by omega)
    have h4 : (P / n + 1) * n ≤ 5 * 4 := Nat.mul_le_mul (by omega) hn4
    unfold mo_findLeaders_l10
    rw [hz, z1, nI_1, pk_mul, if_pos ((nI_ltI (by omega) (by omega)).mpr h3)]
  | succ r ih =>
    intro k nf m e hnf hz hcq h1 h2
    obtain ⟨nf, rfl⟩ : ∃ e, nf = e + 1 := ⟨nf - 1, by omega⟩
    have h3 : (k + 1) * n ≤ P := Nat.le_trans (Nat.mul_le_mul_right n (show k + 1 ≤ P / n by omega)) (Nat.div_mul_le_self P n)
    have h4 : (k + 1) * n = n * k + n := by rw [Nat.add_mul, Nat.one_mul, Nat.mul_comm]
    have hL := rl_lt (tr := tr) (ls := ls) (f := f) (show 0 < n by omega) hb k
    have hW := wp_le tr (fun j => f (n * k + j)) (n - 1)
    have hwin : mo_winning nf q (nI k * nI n) (nI n) (zT tr) m = some (nI (wp tr (fun j => f (n * k + j)) (n - 1)), m) := by
      rw [pk_mul, Nat.mul_comm k n]
      refine winning_sp (by omega) (by omega) (by omega) (by omega) (fun j hj => ?_) (fun j hj => hf _ (by omega))
      rw [hcq, hc _ (by omega)]
    have hrem : rn_rem (nI (rl n tr ls b f k) + nI (wp tr (fun j => f (n * k + j)) (n - 1))) (nI n) = nI (rwn n tr ls b f k) := by
      rw [nI_add, rem_n (by omega) (by omega) (by omega)]
      rfl
    have hn0 : ¬ nI n = 0 := nI_ne0 (by omega) (by omega)
    have nx : (if nI ls = 0 then some (nI (rwn n tr ls b f k)) else some (rn_rem (nI (rl n tr ls b f k) + 1) (nI n))) = some (nI (rl n tr ls b f (k + 1))) := by
      rw [rl]
      by_cases g : ls = 0
      · rw [if_pos (by rw [g]; rfl), if_pos g]
        rfl
      · rw [if_neg (nI_ne0 (by omega) (by omega)), if_neg g, nI_1, rem_n (by omega) (by omega) (by omega)]
    have rz : ∀ x : Int32, (rm_i m 140 k x).1 116 = z := fun x => by
      rw [← hz]
      funext j
      rw [mi_get, if_neg (by omega)]
    have r139 : ∀ x : Int32, (rm_i m 140 k x).1 139 k = nI (rl n tr ls b f k) := fun x => by rw [mi_get, if_neg (by omega), h1 k (by omega)]
    have st : mo_findLeaders_l10 q (nI P) (nf + 1) (nI k) m = mo_findLeaders_l10 q (nI P) nf (nI (k + 1)) (rm_i (rm_i m 140 k (nI (rwn n tr ls b f k))) 139 (k + 1) (nI (rl n tr ls b f (k + 1)))) := by
      rw [mo_findLeaders_l10, hz, z1, z4, nI_1, if_neg (by rw [pk_mul, nI_ltI (by omega) (by omega)]; omega), if_pos ((in_n (by omega)).mpr (by omega)), hwin]
      simp only [Option.bind_some]
      rw [hz, z1, if_pos hn0, nI_n (by omega), h1 k (by omega), hrem, if_pos ((in_n (by omega)).mpr (by omega))]
      rw [rz, z6, z1, if_pos ((in_n (by omega)).mpr (by omega)), if_pos hn0, r139, nx]
      simp only [Option.bind_some]
      rw [if_pos ((in_n (by omega)).mpr (by omega)), nI_n (by omega)]
    rw [st]
    obtain ⟨m2, q1, q2, q3, q4⟩ := ih (k + 1) nf _ (by omega) (by omega) (show (rm_i (rm_i m 140 k (nI (rwn n tr ls b f k))) 139 (k + 1) (nI (rl n tr ls b f (k + 1)))).1 116 = z by
      rw [← hz]
      funext j
      rw [mi_get, if_neg (by omega), mi_get, if_neg (by omega)]) (by
      rw [← hcq]
      funext j
      rw [mi_get, if_neg (by omega), mi_get, if_neg (by omega)]) (by
      intro i hi
      rw [mi_get]
      by_cases g : i = k + 1
      · rw [if_pos ⟨rfl, g⟩, g]
      · rw [if_neg (fun z => g z.2), mi_get, if_neg (by omega)]
        exact h1 i (by omega)) (by
      intro i hi
      rw [mi_get, if_neg (by omega), mi_get]
      by_cases g : i = k
      · rw [if_pos ⟨rfl, g⟩, g]
      · rw [if_neg (fun z => g z.2)]
        exact h2 i (by omega))
    exact ⟨m2, q1, q2, q3, ((Kr.rf.sti (by exact Or.inr rfl)).sti (by exact Or.inl rfl)).tr q4⟩
theorem findLeaders_sp {q P n tr ls b nf : Nat} {f : Nat → Nat} {m : rn_Mem} (hnf : 20 < nf) (hn : 2 ≤ n) (hn4 : n ≤ 4) (hP : P ≤ 12) (hK : P / n ≤ 4) (hls : ls < 2) (hb : b < n) (hal : P ≤ rn_al q) (hq : q ≠ 139 ∧ q ≠ 140) (hf : ∀ i, i < P → f i < 16) (hc : ∀ i, i < P → m.1 q i = nI (f i)) (z1 : m.1 116 1 = nI n) (z4 : m.1 116 4 = zT tr) (z6 : m.1 116 6 = nI ls) : ∃ m2, mo_findLeaders nf q (nI b) (nI P) m = some m2 ∧ (∀ i, i ≤ P / n → m2.1 139 i = nI (rl n tr ls b f i)) ∧ (∀ i, i < P / n → m2.1 140 i = nI (rwn n tr ls b f i)) ∧ Kr Pfl m m2 := by
  have k1 : Kr Pfl m (rm_i m 139 0 (nI b)) := Kr.rf.sti (by exact Or.inl rfl)
  obtain ⟨m2, q1, q2, q3, q4⟩ := findLeaders_l10_sp (f := f) (b := b) hn hn4 hP hK hls hb hal hq hf hc z1 z4 z6 (P / n) 0 nf (rm_i m 139 0 (nI b)) (by omega) (by omega) (k1 116 (by unfold Pfl; omega)).1 (k1 q (by unfold Pfl; omega)).1 (by
    intro i hi
    obtain rfl : i = 0 := by omega
    rw [mi_get, if_pos ⟨rfl, rfl⟩]
    rfl) (by intro i hi; omega)
  refine ⟨m2, ?_, q2, q3, k1.tr q4⟩
  unfold mo_findLeaders
  simp only [Option.bind_some]
  rw [k0, q1]
  rfl
theorem takeRow_l2_sp {S : Nat → Nat} {z : Nat → Int32} (hz : zOK S z) (hs : S 1 * S 2 ≤ 12) : ∀ (r k nf : Nat) (m : rn_Mem), k + r = S 1 * S 2 → r < nf → m.1 116 = z → (∀ i, i < k → m.1 141 i = nI (S (89 + i))) → ∃ m2, mo_takeRow_l2 nf (nI k) m = some m2 ∧ (∀ i, i < S 1 * S 2 → m2.1 141 i = nI (S (89 + i))) ∧ Kr (fun p => p = 141) m m2 := by
  intro r
  induction r with
  | zero =>
    intro k nf m e hnf hm h1
    obtain ⟨nf, rfl⟩ : ∃ e, nf = e + 1 := ⟨nf - 1, by omega⟩
    obtain rfl : k = S 1 * S 2 := by omega
    refine ⟨m, ?_, h1, Kr.rf⟩
    unfold mo_takeRow_l2 mo_size
    simp only [Option.bind_some]
    rw [hm, zOK_at hz (k := 1) (by omega) (by omega) (by omega) (by omega), zOK_at hz (k := 2) (by omega) (by omega) (by omega) (by omega), pk_mul, if_neg (by rw [nI_ltI (by omega) (by omega)]; omega)]
  | succ r ih =>
    intro k nf m e hnf hm h1
    obtain ⟨nf, rfl⟩ : ∃ e, nf = e + 1 := ⟨nf - 1, by omega⟩
    obtain ⟨m2, q1, q2, q3⟩ := ih (k + 1) nf (rm_i m 141 k (nI (S (89 + k)))) (by omega) (by omega) (by
      rw [← hm]
      funext j
      rw [mi_get, if_neg (by omega)]) (by
      intro i hi
      rw [mi_get]
      by_cases g : i = k
      · rw [if_pos ⟨rfl, g⟩, g]
      · rw [if_neg (fun z => g z.2)]
        exact h1 i (by omega))
    refine ⟨m2, ?_, q2, Kr.tr (Kr.rf.sti (by exact rfl)) q3⟩
    unfold mo_takeRow_l2 mo_size
    simp only [Option.bind_some]
    rw [hm, zOK_at hz (k := 1) (by omega) (by omega) (by omega) (by omega), zOK_at hz (k := 2) (by omega) (by omega) (by omega) (by omega), pk_mul, if_pos (by rw [nI_ltI (by omega) (by omega)]; omega), show (89 : Int32) + nI k = nI (89 + k) from nI_add 89 k, if_pos ((in_n (by omega)).mpr (by omega)), if_pos ((in_n (by omega)).mpr (by omega)), nI_n (by omega), nI_n (by omega), zOK_at hz (k := 89 + k) (by omega) (by omega) (by omega) (by omega), nI_1]
    exact q1
/-- the row as the reference takes it -/
def RT (S : Nat → Nat) (m : rn_Mem) : Prop := (∀ i, i < S 1 * S 2 → m.1 141 i = nI (S (89 + i))) ∧ (∀ k, k ≤ S 2 → m.1 139 k = nI (Sl S k)) ∧ ∀ k, k < S 2 → m.1 140 k = nI (Sw S k)
def Ptr (p : Nat) : Prop := p = 139 ∨ p = 140 ∨ p = 141
theorem WF_row {S : Nat → Nat} (hw : WF S) (h : S 11 = 1) : 2 ≤ S 1 ∧ S 1 ≤ 4 ∧ 1 ≤ S 2 ∧ S 2 ≤ 4 ∧ S 1 * S 2 ≤ 12 ∧ S 6 < 2 ∧ S 88 < S 1 ∧ (∀ i, i < S 1 * S 2 → S (89 + i) < 16) := by
  obtain ⟨wg, wt, wc, wr⟩ := WF_1 hw (S11_1 hw h)
  obtain ⟨h1, h2, h3, h4, h5, h6, h7, h8, h9, _⟩ := wg
  obtain ⟨r1, r2, r3⟩ := wr.2 h
  exact ⟨h1, h2, h3, h4, h5, by omega, r1, fun i hi => (r2 i hi).1⟩
theorem takeRow_sp {S : Nat → Nat} {m : rn_Mem} {nf : Nat} (hnf : 30 < nf) (hw : WF S) (h11 : S 11 = 1) (hz : zOK S (m.1 116)) : ∃ m2, mo_takeRow nf m = some m2 ∧ RT S m2 ∧ Kr Ptr m m2 := by
  obtain ⟨h1, h2, h3, h4, h5, h6, h7, h8⟩ := WF_row hw h11
  obtain ⟨m1, a1, a2, a3⟩ := takeRow_l2_sp hz h5 (S 1 * S 2) 0 nf m (by omega) (by omega) rfl (by intro i hi; omega)
  have e116 : m1.1 116 = m.1 116 := (a3 116 (by omega)).1
  have hd : S 1 * S 2 / S 1 = S 2 := Nat.mul_div_cancel_left _ (by omega)
  obtain ⟨m2, b1, b2, b3, b4⟩ := findLeaders_sp (q := 141) (P := S 1 * S 2) (n := S 1) (tr := S 4) (ls := S 6) (b := S 88) (nf := nf) (f := fun i => S (89 + i)) (m := m1) (by omega) h1 h2 h5 (by omega) h6 h7 (by rw [al141]; omega) (by omega) h8 a2 (by rw [e116]; exact zOK_at hz (by omega) (by omega) (by omega) (by omega)) (by rw [e116]; exact hz.2.1) (by rw [e116]; exact zOK_at hz (by omega) (by omega) (by omega) (by omega))
  rw [hd] at b2 b3
  refine ⟨m2, ?_, ⟨fun i hi => ?_, b2, b3⟩, (a3.mono fun p hp => ?_).tr (b4.mono fun p hp => ?_)⟩
  · unfold mo_takeRow mo_size
    rw [k0, a1]
    simp only [Option.bind_some]
    rw [e116, zOK_at hz (k := 1) (by omega) (by omega) (by omega) (by omega), zOK_at hz (k := 2) (by omega) (by omega) (by omega) (by omega), zOK_at hz (k := 88) (by omega) (by omega) (by omega) (by omega), pk_mul, b1]
    rfl
  · rw [(b4 141 (by unfold Pfl; omega)).1]
    exact a2 i hi
  · exact Or.inr (Or.inr hp)
  · rcases hp with hp | hp
    · exact Or.inl hp
    · exact Or.inr (Or.inl hp)
theorem playerAt_sp {n tr ls b i nf : Nat} {f : Nat → Nat} {m : rn_Mem} (hn : 2 ≤ n) (hn4 : n ≤ 4) (hb : b < n) (hi : i < 1000) (hk : i / n < 5) (z1 : m.1 116 1 = nI n) (h : m.1 139 (i / n) = nI (rl n tr ls b f (i / n))) : mo_playerAt nf (nI i) m = some (nI (rpa n tr ls b f i), m) := by
  have hL := rl_lt (tr := tr) (ls := ls) (f := f) (show 0 < n by omega) hb (i / n)
  have hm := Nat.mod_lt i (show n > 0 by omega)
  have hn0 : ¬ nI n = 0 := nI_ne0 (by omega) (by omega)
  unfold mo_playerAt
  rw [z1, if_pos hn0, pk_div (by omega) (by omega) (by omega), if_pos ((in_n (by omega)).mpr hk), if_pos hn0, if_pos hn0, nI_n (by omega), h, rem_n (by omega) (by omega) (by omega), nI_add, rem_n (by omega) (by omega) (by omega)]
  rfl
theorem C_who (S V : Nat → Nat) (m : rn_Mem) (hw : WF S) (hc : cSt S V 3 m) (a b : Int32) (n : Nat) (hn : 30 < n) : ∃ r, lt_who n a b m = some (r, m) ∧ ∀ m1, zOK S (m1.1 116) → ∃ m2, mo_who n a b m1 = some (r, m2) ∧ Kr Ptr m1 m2 := by
  obtain ⟨⟨g0, g1⟩, c2, c3, c40, c41⟩ := hc
  by_cases hab : (0 ≤ a.toInt ∧ a.toInt ≤ 11) ∧ 0 ≤ b.toInt ∧ b.toInt ≤ 1
  case neg =>
    refine ⟨-1, ?_, fun m1 hz => ⟨m1, ?_, Kr.rf⟩⟩
    · unfold lt_who
      simp only [i_lt, t0, t1, t2, t3, t4, t5, t6, t7, t11, t12, t15, t16, t30, t65535, tm1]
      by_cases q1 : a.toInt < 0
      · rw [if_pos q1]
      rw [if_neg q1]
      by_cases q2 : a.toInt < 12
      · rw [if_pos q2]
        by_cases q3 : b.toInt < 0
        · rw [if_pos q3]
        · rw [if_neg q3, if_pos (by omega)]
      · rw [if_neg q2]
    · unfold mo_who
      rw [mo_in_i n a 0 11 0 11 m1 (by decide) (by decide)]
      simp only [Option.bind_some]
      by_cases q1 : 0 ≤ a.toInt ∧ a.toInt ≤ 11
      · rw [if_neg (b10 q1), mo_in_i n b 0 1 0 1 m1 (by decide) (by decide)]
        simp only [Option.bind_some]
        rw [if_pos (b00 (fun z => hab ⟨q1, z⟩))]
      · rw [if_pos (b00 q1)]
  obtain ⟨ha, hb⟩ := hab
  have hL : lt_who n a b m = if m.1 14 0 = 0 then some (-2, m) else (ga_cards n 4 m).bind fun (r7, m6) => if a < r7 then if b = 0 then if rn_in a 12 = true then some (m6.1 16 a.toNatClampNeg, m6) else none else if rn_in a 12 = true then some (m6.1 17 a.toNatClampNeg, m6) else none else some (-1, m6) := by
    unfold lt_who
    simp only [i_lt, t0, t1, t2, t3, t4, t5, t6, t7, t11, t12, t15, t16, t30, t65535, tm1]
    rw [if_neg (by omega), if_pos (by omega), if_neg (by omega), if_neg (by omega)]
  have hM : ∀ m1, mo_who n a b m1 = if m1.1 116 11 = 0 then some (-2, m1) else (mo_size n m1).bind fun (r11, m10) => if a < r11 then (mo_takeRow n m10).bind fun m14 => if b = 0 then (mo_playerAt n a m14).bind fun (r18, m17) => some (r18, m17) else if ¬ (m14.1 116 1) = 0 then if rn_in (a / (m14.1 116 1)) 4 = true then some (m14.1 140 (a / (m14.1 116 1)).toNatClampNeg, m14) else none else none else some (-1, m10) := by
    intro m1
    unfold mo_who
    rw [mo_in_i n a 0 11 0 11 m1 (by decide) (by decide)]
    simp only [Option.bind_some]
    rw [if_neg (b10 ha), mo_in_i n b 0 1 0 1 m1 (by decide) (by decide)]
    simp only [Option.bind_some]
    rw [if_neg (b10 hb)]
  rcases S11_01 hw with h11 | h11
  · refine ⟨-2, ?_, fun m1 hz => ⟨m1, ?_, Kr.rf⟩⟩
    · rw [hL, if_pos (by rw [show m.1 14 0 = nI (S 11) from c40, h11]; rfl)]
    · rw [hM, if_pos (by rw [zOK_at hz (by omega) (by omega) (by omega) (by omega), h11]; rfl)]
  obtain ⟨h1, h2, h3, h4, h5, h6, h7, h8⟩ := WF_row hw h11
  obtain ⟨e1, e2, _⟩ := g1 (S11_1 hw h11)
  obtain ⟨f1, f2, f3⟩ := c41 h11
  obtain ⟨i, hi, rfl⟩ := i_nat (x := a) (k := 12) ha.1 (by omega)
  obtain ⟨w, hw2, rfl⟩ := i_nat (x := b) (k := 2) hb.1 (by omega)
  have hl0 : ¬ m.1 14 0 = 0 := by rw [show m.1 14 0 = nI (S 11) from c40, h11]; decide
  rw [if_neg hl0] at hL
  unfold ga_cards at hL
  simp only [Option.bind_some] at hL
  rw [show m.1 4 1 = _ from e1, show m.1 4 2 = _ from e2, pk_mul] at hL
  have hM2 : ∀ m1, zOK S (m1.1 116) → mo_who n (nI i) (nI w) m1 = if nI i < nI (S 1 * S 2) then (mo_takeRow n m1).bind fun m14 => if nI w = 0 then (mo_playerAt n (nI i) m14).bind fun (r18, m17) => some (r18, m17) else if ¬ (m14.1 116 1) = 0 then if rn_in (nI i / (m14.1 116 1)) 4 = true then some (m14.1 140 (nI i / (m14.1 116 1)).toNatClampNeg, m14) else none else none else some (-1, m1) := by
    intro m1 hz
    rw [hM, if_neg (by rw [zOK_at hz (by omega) (by omega) (by omega) (by omega), h11]; decide)]
    unfold mo_size
    simp only [Option.bind_some]
    rw [zOK_at hz (k := 1) (by omega) (by omega) (by omega) (by omega), zOK_at hz (k := 2) (by omega) (by omega) (by omega) (by omega), pk_mul]
  by_cases hs : i < S 1 * S 2
  case neg =>
    refine ⟨-1, ?_, fun m1 hz => ⟨m1, ?_, Kr.rf⟩⟩
    · rw [hL, if_neg (mt (nI_ltI (by omega) (by omega)).mp hs)]
    · rw [hM2 m1 hz, if_neg (mt (nI_ltI (by omega) (by omega)).mp hs)]
  have hs' := (nI_ltI (show i < 2 ^ 31 by omega) (show S 1 * S 2 < 2 ^ 31 by omega)).mpr hs
  have hk : i / S 1 < S 2 := by rw [Nat.div_lt_iff_lt_mul (by omega), Nat.mul_comm]; exact hs
  rw [if_pos hs', if_pos ((in_n (by omega)).mpr (by omega)), nI_n (by omega), show m.1 16 i = _ from (f2 i hs).2.1, show m.1 17 i = _ from (f2 i hs).2.2] at hL
  obtain rfl | rfl : w = 0 ∨ w = 1 := by omega
  · refine ⟨_, by rw [hL, if_pos (show nI 0 = 0 from rfl)], fun m1 hz => ?_⟩
    obtain ⟨m2, t1, ⟨t2, t3, t4⟩, t5⟩ := takeRow_sp hn hw h11 hz
    have e116 : m2.1 116 = m1.1 116 := (t5 116 (by unfold Ptr; omega)).1
    refine ⟨m2, ?_, t5⟩
    rw [hM2 m1 hz, if_pos hs', t1]
    simp only [Option.bind_some]
    rw [if_pos (show nI 0 = 0 from rfl), playerAt_sp (n := S 1) (tr := S 4) (ls := S 6) (b := S 88) (f := fun i => S (89 + i)) h1 h2 h7 (by omega) (by omega) (by rw [e116]; exact zOK_at hz (by omega) (by omega) (by omega) (by omega)) (t3 _ (by omega))]
    rfl
  · refine ⟨_, by rw [hL, if_neg (show ¬ nI 1 = 0 by decide), if_pos ((in_n (by omega)).mpr (by omega))], fun m1 hz => ?_⟩
    obtain ⟨m2, t1, ⟨t2, t3, t4⟩, t5⟩ := takeRow_sp hn hw h11 hz
    have e116 : m2.1 116 = m1.1 116 := (t5 116 (by unfold Ptr; omega)).1
    refine ⟨m2, ?_, t5⟩
    rw [hM2 m1 hz, if_pos hs', t1]
    simp only [Option.bind_some]
    rw [if_neg (show ¬ nI 1 = 0 by decide), e116, zOK_at hz (k := 1) (by omega) (by omega) (by omega) (by omega), if_pos (nI_ne0 (by omega) (by omega)), pk_div (by omega) (by omega) (by omega), if_pos ((in_n (by omega)).mpr (by omega)), nI_n (by omega), t4 _ hk]
/-! count 2 -/
theorem wonAhead_l5_sp {q0 q1 P n t : Nat} {w : Nat → Nat} {m : rn_Mem} (hn : 1 ≤ n) (hs : n * t ≤ 12) (hP : P < 1000) (h1 : m.1 q1 1 = nI n) (h2 : m.1 q1 2 = nI t) (hw : ∀ k, k < t → m.1 (q0 + 3) (n * k) = nI (w k)) (hw2 : ∀ k, k < t → w k < 100) : ∀ (r k nf : Nat), k + r = t → r < nf → ro_wonAhead_l5 q0 q1 (nI P) nf (nI (fb_ct (fun k => decide (n * k + n ≤ P) && decide (w k % 2 = 0)) k)) (nI k) m = some (nI (fb_ct (fun k => decide (n * k + n ≤ P) && decide (w k % 2 = 0)) t), m) := by
  intro r
  have ht : t ≤ 12 := Nat.le_trans (Nat.le_mul_of_pos_left t (by omega)) hs
  induction r with
  | zero =>
    intro k nf e hnf
    obtain ⟨nf, rfl⟩ : ∃ e, nf = e + 1 := ⟨nf - 1, by omega⟩
    obtain rfl : k = t := by omega
    unfold ro_wonAhead_l5
    rw [h2, if_neg (by rw [nI_ltI (by omega) (by omega)]; omega)]
  | succ r ih =>
    intro k nf e hnf
    obtain ⟨nf, rfl⟩ : ∃ e, nf = e + 1 := ⟨nf - 1, by omega⟩
    have h := ih (k + 1) nf (by omega) (by omega)
    have hk := kn (n := n) (show k < t by omega)
    have hc := fb_ct_le (fun k => decide (n * k + n ≤ P) && decide (w k % 2 = 0)) k
    have hwk := hw2 k (by omega)
    rw [fb_ct_succ] at h
    unfold ro_wonAhead_l5
    rw [h1, h2, if_pos (by rw [nI_ltI (by omega) (by omega)]; omega), nI_1, pk_mul, pk_mul, show (k + 1) * n = n * k + n by rw [Nat.add_mul, Nat.one_mul, Nat.mul_comm], Nat.mul_comm k n]
    by_cases g1 : n * k + n ≤ P
    · rw [if_neg (by rw [nI_ltI (by omega) (by omega)]; omega), if_pos ((in_n (by omega)).mpr (by omega)), nI_n (by omega), hw k (by omega), k2, rem_n (by omega) (by omega) (by omega)]
      by_cases g2 : w k % 2 = 0
      · rw [if_pos (by rw [g2]; rfl)]
        rw [if_pos (by simp only [g1, g2, decide_true, Bool.and_self])] at h
        simp only [Option.bind_some, nI_1]
        exact h
      · rw [if_neg (nI_ne0 (by omega) (by omega))]
        rw [if_neg (by simp only [g2, decide_false, Bool.and_false]; decide)] at h
        simp only [Option.bind_some]
        exact h
    · rw [if_pos (by rw [nI_ltI (by omega) (by omega)]; omega)]
      rw [if_neg (by simp only [g1, decide_false, Bool.false_and]; decide)] at h
      simp only [Option.bind_some]
      exact h
theorem sideWins_l4_sp {a t : Nat} {w : Nat → Nat} {m : rn_Mem} (ht : t ≤ 4) (h2 : m.1 116 2 = nI t) (hw : ∀ k, k < t → m.1 140 k = nI (w k)) (hw2 : ∀ k, k < t → w k < 100) : ∀ (r k nf : Nat), k + r = t → r < nf → a ≤ k → mo_sideWins_l4 nf (nI (fb_ct (fun k => decide (a ≤ k) && decide (w k % 2 = 0)) k)) (nI k) m = some (nI (fb_ct (fun k => decide (a ≤ k) && decide (w k % 2 = 0)) t), m) := by
  intro r
  induction r with
  | zero =>
    intro k nf e hnf ha
    obtain ⟨nf, rfl⟩ : ∃ e, nf = e + 1 := ⟨nf - 1, by omega⟩
    obtain rfl : k = t := by omega
    unfold mo_sideWins_l4
    rw [h2, if_neg (by rw [nI_ltI (by omega) (by omega)]; omega)]
  | succ r ih =>
    intro k nf e hnf ha
    obtain ⟨nf, rfl⟩ : ∃ e, nf = e + 1 := ⟨nf - 1, by omega⟩
    have h := ih (k + 1) nf (by omega) (by omega) (by omega)
    have hc := fb_ct_le (fun k => decide (a ≤ k) && decide (w k % 2 = 0)) k
    have hwk := hw2 k (by omega)
    rw [fb_ct_succ] at h
    unfold mo_sideWins_l4
    rw [h2, if_pos (by rw [nI_ltI (by omega) (by omega)]; omega), if_pos ((in_n (by omega)).mpr (by omega)), nI_n (by omega), hw k (by omega), k2, rem_n (by omega) (by omega) (by omega)]
    by_cases g2 : w k % 2 = 0
    · rw [if_pos (by rw [g2]; rfl)]
      rw [if_pos (by simp only [ha, g2, decide_true, Bool.and_self])] at h
      simp only [Option.bind_some, nI_1]
      exact h
    · rw [if_neg (nI_ne0 (by omega) (by omega))]
      rw [if_neg (by simp only [g2, decide_false, Bool.and_false]; decide)] at h
      simp only [Option.bind_some, k0, k1, nI_add]
      exact h
theorem sideWins_sp {a t nf : Nat} {w : Nat → Nat} {m : rn_Mem} (ht : t ≤ 4) (ha : a ≤ t) (hnf : t < nf) (h2 : m.1 116 2 = nI t) (hw : ∀ k, k < t → m.1 140 k = nI (w k)) (hw2 : ∀ k, k < t → w k < 100) : mo_sideWins nf (nI a) m = some (nI (fb_ct (fun k => decide (a ≤ k) && decide (w k % 2 = 0)) t), m) := by
  unfold mo_sideWins
  have h := sideWins_l4_sp (a := a) ht h2 hw hw2 (t - a) a nf (by omega) (by omega) (by omega)
  rw [show fb_ct (fun k => decide (a ≤ k) && decide (w k % 2 = 0)) a = 0 from fb_ct_zero.mpr fun k hk => by rw [decide_eq_false (by omega)]; rfl, ← k0] at h
  rw [h]
  rfl
/-- tricks over ahead of a place that side 0 won -/
def wa (S : Nat → Nat) (P : Nat) : Nat := fb_ct (fun k => decide (S 1 * k + S 1 ≤ P) && decide (Sw S k % 2 = 0)) (S 2)
theorem Sw_lt {S : Nat → Nat} {k : Nat} (h : 2 ≤ S 1) : Sw S k < S 1 := rwn_lt (by omega)
theorem wonAhead_sp {S V : Nat → Nat} {m : rn_Mem} {nf P : Nat} (hnf : 10 < nf) (hw : WF S) (hc : cSt S V 3 m) (h11 : S 11 = 1) (hP : P < 1000) : ro_wonAhead nf 14 4 (nI P) m = some (nI (wa S P), m) := by
  obtain ⟨⟨g0, g1⟩, c2, c3, c40, c41⟩ := hc
  obtain ⟨h1, h2, h3, h4, h5, h6, h7, h8⟩ := WF_row hw h11
  obtain ⟨e1, e2, _⟩ := g1 (S11_1 hw h11)
  obtain ⟨f1, f2, f3⟩ := c41 h11
  have h := wonAhead_l5_sp (q0 := 14) (q1 := 4) (P := P) (n := S 1) (t := S 2) (w := Sw S) (m := m) (by omega) h5 hP e1 e2 (fun k hk => by
    have q := (f2 (S 1 * k) (by have := kn (n := S 1) hk; omega)).2.2
    rw [Nat.mul_div_cancel_left _ (by omega)] at q
    exact q) (fun k hk => by have := Sw_lt (S := S) (k := k) h1; omega) (S 2) 0 nf (by omega) (by omega)
  rw [show fb_ct (fun k => decide (S 1 * k + S 1 ≤ P) && decide (Sw S k % 2 = 0)) 0 = 0 from rfl, ← k0] at h
  unfold ro_wonAhead
  rw [h]
  rfl
theorem C_count (S V : Nat → Nat) (m : rn_Mem) (hw : WF S) (hc : cSt S V 3 m) (a : Int32) (n : Nat) (hn : 200 < n) : ∃ r, lt_count n a m = some (r, m) ∧ ∀ m1, zOK S (m1.1 116) → ∃ m2, mo_count n a m1 = some (r, m2) ∧ Kr Ptr m1 m2 := by
  by_cases ha : 0 ≤ a.toInt ∧ a.toInt ≤ 2
  case neg =>
    refine ⟨-1, ?_, fun m1 hz => ⟨m1, ?_, Kr.rf⟩⟩
    · unfold lt_count
      rw [if_neg (fun h => ha (by rw [h]; decide)), if_neg (fun h => ha (by rw [h]; decide)), if_neg (fun h => ha (by rw [h]; decide))]
    · unfold mo_count
      rw [mo_in_i n a 0 2 0 2 m1 (by decide) (by decide)]
      simp only [Option.bind_some]
      rw [if_pos (b00 ha)]
  obtain ⟨i, hi, rfl⟩ := i_nat (x := a) (k := 3) ha.1 (by omega)
  obtain rfl | rfl | rfl : i = 0 ∨ i = 1 ∨ i = 2 := by omega
  · obtain ⟨_, _, ⟨c30, _⟩, _⟩ := hc
    refine ⟨nI (S 10), ?_, fun m1 hz => ⟨m1, ?_, Kr.rf⟩⟩
    · unfold lt_count
      rw [if_pos (show nI 0 = 0 from rfl), show m.1 9 0 = _ from c30]
    · unfold mo_count
      rw [mo_in_i n _ 0 2 0 2 m1 (by decide) (by decide)]
      simp only [Option.bind_some]
      rw [if_neg (b10 ha), if_pos (show nI 0 = 0 from rfl), zOK_at hz (by omega) (by omega) (by omega) (by omega)]
  · exact ⟨_, C_unseen S V m hw hc n, fun m1 hz => ⟨m1, M_unseen S m1 hw hz n (by omega), Kr.rf⟩⟩
  · rcases S11_01 hw with h11 | h11
    · obtain ⟨_, _, _, c40, c41⟩ := hc
      refine ⟨-4, ?_, fun m1 hz => ⟨m1, ?_, Kr.rf⟩⟩
      · unfold lt_count
        rw [if_neg (show ¬ nI 2 = 0 by decide), if_neg (show ¬ nI 2 = 1 by decide), if_pos (show nI 2 = 2 from rfl), if_pos (by rw [show m.1 14 0 = nI (S 11) from c40, h11]; rfl)]
      · unfold mo_count
        rw [mo_in_i n _ 0 2 0 2 m1 (by decide) (by decide)]
        simp only [Option.bind_some]
        rw [if_neg (b10 ha), if_neg (show ¬ nI 2 = 0 by decide), if_neg (show ¬ nI 2 = 1 by decide), if_pos (by rw [zOK_at hz (by omega) (by omega) (by omega) (by omega), h11]; rfl)]
    · obtain ⟨h1, h2, h3, h4, h5, h6, h7, h8⟩ := WF_row hw h11
      obtain ⟨e1, e2, _⟩ := hc.1.2 (S11_1 hw h11)
      refine ⟨nI (wa S (S 1 * S 2)), ?_, fun m1 hz => ?_⟩
      · unfold lt_count ga_cards
        rw [if_neg (show ¬ nI 2 = 0 by decide), if_neg (show ¬ nI 2 = 1 by decide), if_pos (show nI 2 = 2 from rfl), if_neg (by rw [show m.1 14 0 = nI (S 11) from hc.2.2.2.1, h11]; decide)]
        simp only [Option.bind_some]
        rw [show m.1 4 1 = _ from e1, show m.1 4 2 = _ from e2, pk_mul, wonAhead_sp (by omega) hw hc h11 (by omega)]
        rfl
      · obtain ⟨m2, t1, ⟨t2, t3, t4⟩, t5⟩ := takeRow_sp (nf := n) (by omega) hw h11 hz
        have e116 : m2.1 116 = m1.1 116 := (t5 116 (by unfold Ptr; omega)).1
        refine ⟨m2, ?_, t5⟩
        unfold mo_count
        rw [mo_in_i n _ 0 2 0 2 m1 (by decide) (by decide)]
        simp only [Option.bind_some]
        rw [if_neg (b10 ha), if_neg (show ¬ nI 2 = 0 by decide), if_neg (show ¬ nI 2 = 1 by decide), if_neg (by rw [zOK_at hz (by omega) (by omega) (by omega) (by omega), h11]; decide), t1]
        simp only [Option.bind_some]
        rw [k0, sideWins_sp (t := S 2) (w := Sw S) h4 (by omega) (by omega) (by rw [e116]; exact zOK_at hz (by omega) (by omega) (by omega) (by omega)) t4 (fun k hk => by have := Sw_lt (S := S) (k := k) h1; omega)]
        simp only [Option.bind_some]
        congr 3
        unfold wa
        refine fb_ct_cong fun k hk => ?_
        rw [decide_eq_true (show 0 ≤ k by omega), decide_eq_true (kn hk)]
