/-! THE TAPE, read: class and reference in step -/
theorem g12 {m : rn_Mem} {x : Int32} : (rm_i m 1 2 x).1 1 2 = x := by rw [mi_get, if_pos ⟨rfl, rfl⟩]
theorem g36 {m : rn_Mem} {x : Int32} {j : Nat} : (rm_i m 36 j x).1 1 2 = m.1 1 2 := by rw [mi_get, if_neg (by omega)]
theorem g115 {m : rn_Mem} {x : Int32} : (rm_i m 115 3 x).1 115 3 = x := by rw [mi_get, if_pos ⟨rfl, rfl⟩]
theorem g118 {m : rn_Mem} {x : Int32} {j : Nat} : (rm_i m 118 j x).1 115 3 = m.1 115 3 := by rw [mi_get, if_neg (by omega)]
theorem u11 {m : rn_Mem} {x : Int32} : (rm_i m 1 2 x).1 1 1 = m.1 1 1 := by rw [mi_get, if_neg (by omega)]
theorem u2 {m : rn_Mem} {x : Int32} {j : Nat} : (rm_i m 1 2 x).1 2 j = m.1 2 j := by rw [mi_get, if_neg (by omega)]
theorem u115 {m : rn_Mem} {x : Int32} : (rm_i m 115 3 x).1 115 2 = m.1 115 2 := by rw [mi_get, if_neg (by omega)]
theorem u117 {m : rn_Mem} {x : Int32} {j : Nat} : (rm_i m 115 3 x).1 117 j = m.1 117 j := by rw [mi_get, if_neg (by omega)]
def sk (B : Nat → Nat) : Nat → Nat → Nat
  | 0, a => a
  | r + 1, a => if B a = 32 then sk B r (a + 1) else a
def nx (B : Nat → Nat) (K a : Nat) : Nat := sk B (K - a) a
def bx (B : Nat → Nat) (K a : Nat) : Int32 := if nx B K a < K then nI (B (nx B K a)) else mI 1
theorem sk_le {B : Nat → Nat} : ∀ {r a : Nat}, a ≤ sk B r a ∧ sk B r a ≤ a + r
  | 0, a => ⟨Nat.le_refl _, Nat.le_refl _⟩
  | r + 1, a => by
    rw [sk]
    have := sk_le (B := B) (r := r) (a := a + 1)
    split <;> omega
theorem sk_ne {B : Nat → Nat} : ∀ {r a : Nat}, sk B r a < a + r → B (sk B r a) ≠ 32
  | 0, a, h => by rw [sk] at h; omega
  | r + 1, a, h => by
    rw [sk] at h ⊢
    by_cases q : B a = 32
    · rw [if_pos q] at h ⊢; exact sk_ne (by omega)
    · rw [if_neg q]; exact q
theorem nx_le {B : Nat → Nat} {K a : Nat} (h : a ≤ K) : a ≤ nx B K a ∧ nx B K a ≤ K := by
  have := sk_le (B := B) (r := K - a) (a := a)
  unfold nx; omega
theorem nx_ne {B : Nat → Nat} {K a : Nat} (h : a ≤ K) (h2 : nx B K a < K) : B (nx B K a) ≠ 32 := by
  unfold nx at *; exact sk_ne (by omega)
theorem nx_nx {B : Nat → Nat} {K a : Nat} (h : a ≤ K) : nx B K (nx B K a) = nx B K a := by
  have h1 := nx_le (B := B) h
  by_cases q : nx B K a < K
  · have h2 := nx_ne h q
    generalize nx B K a = s at *
    unfold nx
    rw [show K - s = (K - s - 1) + 1 by omega, sk, if_neg h2]
  · have e : nx B K a = K := by omega
    rw [e]; unfold nx; rw [Nat.sub_self]; rfl
theorem bx_nx {B : Nat → Nat} {K a : Nat} (h : a ≤ K) : bx B K (nx B K a) = bx B K a := by
  unfold bx; rw [nx_nx h]
def TB (B : Nat → Nat) (K : Nat) : Prop := K ≤ 80 ∧ ∀ i, i < K → 32 ≤ B i ∧ B i ≤ 126
def TC (B : Nat → Nat) (K : Nat) (m : rn_Mem) : Prop := m.1 1 1 = nI K ∧ ∀ i, i < K → m.1 2 i = nI (B i)
def TM (B : Nat → Nat) (K : Nat) (m : rn_Mem) : Prop := m.1 115 2 = nI K ∧ ∀ i, i < K → m.1 117 i = nI (B i)
theorem TC_k {B : Nat → Nat} {K : Nat} {m : rn_Mem} (h : TC B K m) {p i : Nat} {x : Int32} (h1 : ¬ (p = 1 ∧ i = 1)) (h2 : p ≠ 2) : TC B K (rm_i m p i x) := by
  refine ⟨?_, fun j hj => ?_⟩
  · rw [mi_get, if_neg (by omega)]; exact h.1
  · rw [mi_get, if_neg (by omega)]; exact h.2 j hj
theorem TM_k {B : Nat → Nat} {K : Nat} {m : rn_Mem} (h : TM B K m) {p i : Nat} {x : Int32} (h1 : ¬ (p = 115 ∧ i = 2)) (h2 : p ≠ 117) : TM B K (rm_i m p i x) := by
  refine ⟨?_, fun j hj => ?_⟩
  · rw [mi_get, if_neg (by omega)]; exact h.1
  · rw [mi_get, if_neg (by omega)]; exact h.2 j hj
theorem peek_l0_sp {B : Nat → Nat} {K : Nat} (hB : TB B K) : ∀ (r a n : Nat) (m : rn_Mem), a + r = K → r < n → TC B K m → m.1 1 2 = nI a → tp_peek_l0 n m = some (rm_i m 1 2 (nI (sk B r a))) := by
  obtain ⟨hK, hb⟩ := hB
  intro r
  induction r with
  | zero =>
    intro a n m e hn hT ha
    obtain ⟨n, rfl⟩ : ∃ e, n = e + 1 := ⟨n - 1, by omega⟩
    unfold tp_peek_l0
    rw [ha, hT.1, if_neg (by rw [nI_ltI (by omega) (by omega)]; omega), sk, mi_id m 1 2 (nI a) ha]
  | succ r ih =>
    intro a n m e hn hT ha
    obtain ⟨n, rfl⟩ : ∃ e, n = e + 1 := ⟨n - 1, by omega⟩
    have := hb a (by omega)
    unfold tp_peek_l0
    rw [ha, hT.1, if_pos (by rw [nI_ltI (by omega) (by omega)]; omega), if_pos ((in_n (by omega)).mpr (by omega)), nI_n (by omega), hT.2 a (by omega), sk]
    by_cases q : B a = 32
    · rw [if_pos (by rw [q]; rfl), if_pos q]
      simp only [Option.bind_some]
      rw [nI_1, ih (a + 1) n (rm_i m 1 2 (nI (a + 1))) (by omega) (by omega) (TC_k hT (by omega) (by omega)) (by rw [mi_get, if_pos ⟨rfl, rfl⟩]), mi_mi]
    · rw [if_neg (by rw [show (32 : Int32) = nI 32 from rfl, nI_eq (by omega) (by omega)]; exact q), if_neg q, mi_id m 1 2 (nI a) ha]
theorem next_l0_sp {B : Nat → Nat} {K : Nat} (hB : TB B K) : ∀ (r a n : Nat) (m : rn_Mem), a + r = K → r < n → TM B K m → m.1 115 3 = nI a → mo_nextByte_l0 n m = some (rm_i m 115 3 (nI (sk B r a))) := by
  obtain ⟨hK, hb⟩ := hB
  intro r
  induction r with
  | zero =>
    intro a n m e hn hT ha
    obtain ⟨n, rfl⟩ : ∃ e, n = e + 1 := ⟨n - 1, by omega⟩
    unfold mo_nextByte_l0
    rw [ha, hT.1, if_neg (by rw [nI_ltI (by omega) (by omega)]; omega), sk, mi_id m 115 3 (nI a) ha]
  | succ r ih =>
    intro a n m e hn hT ha
    obtain ⟨n, rfl⟩ : ∃ e, n = e + 1 := ⟨n - 1, by omega⟩
    have := hb a (by omega)
    unfold mo_nextByte_l0
    rw [ha, hT.1, if_pos (by rw [nI_ltI (by omega) (by omega)]; omega), if_pos ((in_n (by omega)).mpr (by omega)), nI_n (by omega), hT.2 a (by omega), sk]
    by_cases q : B a = 32
    · rw [if_pos (by rw [q]; rfl), if_pos q]
      simp only [Option.bind_some]
      rw [nI_1, ih (a + 1) n (rm_i m 115 3 (nI (a + 1))) (by omega) (by omega) (TM_k hT (by omega) (by omega)) (by rw [mi_get, if_pos ⟨rfl, rfl⟩]), mi_mi]
    · rw [if_neg (by rw [show (32 : Int32) = nI 32 from rfl, nI_eq (by omega) (by omega)]; exact q), if_neg q, mi_id m 115 3 (nI a) ha]
theorem c_peek {B : Nat → Nat} {K a n : Nat} {m : rn_Mem} (hB : TB B K) (ha : a ≤ K) (hn : 100 < n) (hT : TC B K m) (h : m.1 1 2 = nI a) : tp_peek n m = some (bx B K a, rm_i m 1 2 (nI (nx B K a))) := by
  have h1 := nx_le (B := B) ha
  have hK := hB.1
  unfold tp_peek
  rw [peek_l0_sp hB (K - a) a n m (by omega) (by omega) hT h]
  simp only [Option.bind_some]
  rw [show sk B (K - a) a = nx B K a from rfl, g12, u11, hT.1]
  unfold bx
  by_cases q : nx B K a < K
  · rw [if_pos (by rw [nI_ltI (by omega) (by omega)]; exact q), if_pos ((in_n (by omega)).mpr (by omega)), nI_n (by omega), u2, hT.2 _ q, if_pos q]
  · rw [if_neg (by rw [nI_ltI (by omega) (by omega)]; exact q), if_neg q, mi1]
theorem m_next {B : Nat → Nat} {K a n : Nat} {m : rn_Mem} (hB : TB B K) (ha : a ≤ K) (hn : 100 < n) (hT : TM B K m) (h : m.1 115 3 = nI a) : mo_nextByte n m = some (bx B K a, rm_i m 115 3 (nI (nx B K a))) := by
  have h1 := nx_le (B := B) ha
  have hK := hB.1
  unfold mo_nextByte
  rw [next_l0_sp hB (K - a) a n m (by omega) (by omega) hT h]
  simp only [Option.bind_some]
  rw [show sk B (K - a) a = nx B K a from rfl, g115, u115, hT.1]
  unfold bx
  by_cases q : nx B K a < K
  · rw [if_pos (by rw [nI_ltI (by omega) (by omega)]; exact q), if_pos ((in_n (by omega)).mpr (by omega)), nI_n (by omega), u117, hT.2 _ q, if_pos q]
  · rw [if_neg (by rw [nI_ltI (by omega) (by omega)]; exact q), if_neg q, mi1]
theorem bx_c {B : Nat → Nat} {K a : Nat} (hB : TB B K) (ha : a ≤ K) : (nx B K a = K ∧ bx B K a = mI 1) ∨ (nx B K a < K ∧ ∃ b, 32 ≤ b ∧ b ≤ 126 ∧ bx B K a = nI b) := by
  have h1 := nx_le (B := B) ha
  unfold bx
  by_cases q : nx B K a < K
  · rw [if_pos q]; exact Or.inr ⟨q, _, (hB.2 _ q).1, (hB.2 _ q).2, rfl⟩
  · rw [if_neg q]; exact Or.inl ⟨by omega, rfl⟩
def dI (d : Option Nat) : Int32 := match d with
  | none => -1
  | some v => nI v
theorem S_take {B : Nat → Nat} {K a : Nat} (hB : TB B K) (ha : a ≤ K) (L : Int32) (hL : 0 ≤ L.toInt) : ∃ (r : Int32) (a' : Nat), a' ≤ K ∧ (r = 0 ∨ r = 1) ∧ (∀ n m, 100 < n → TC B K m → m.1 1 2 = nI a → tp_take n L m = some (r, rm_i m 1 2 (nI a'))) ∧ (∀ n m, 100 < n → TM B K m → m.1 115 3 = nI a → mo_takes n L m = some (r, rm_i m 115 3 (nI a'))) := by
  have h1 := nx_le (B := B) ha
  by_cases q : bx B K a = L
  · have hlt : nx B K a < K := by
      rcases bx_c hB ha with ⟨_, h⟩ | ⟨h, _⟩
      · rw [← q, h, mI_int (by omega)] at hL; omega
      · exact h
    refine ⟨1, nx B K a + 1, by omega, Or.inr rfl, fun n m hn hT h => ?_, fun n m hn hT h => ?_⟩
    · unfold tp_take
      rw [c_peek hB ha hn hT h]
      simp only [Option.bind_some]
      rw [if_pos q, g12, nI_1, mi_mi]
    · unfold mo_takes
      rw [m_next hB ha hn hT h]
      simp only [Option.bind_some]
      rw [if_pos q]
      simp only [Option.bind_some]
      rw [if_neg (by decide)]
      simp only [Option.bind_some]
      rw [if_pos (by decide), g115, nI_1, mi_mi]
  · refine ⟨0, nx B K a, by omega, Or.inl rfl, fun n m hn hT h => ?_, fun n m hn hT h => ?_⟩
    · unfold tp_take
      rw [c_peek hB ha hn hT h]
      simp only [Option.bind_some]
      rw [if_neg q]
    · unfold mo_takes
      rw [m_next hB ha hn hT h]
      simp only [Option.bind_some]
      rw [if_neg q]
      simp only [Option.bind_some, if_true, true_or]
      rw [g115, k0, nI_add, Nat.add_zero, mi_mi]
theorem sub48 {b : Nat} (h : b ≤ 126) : (nI b - 48).toInt = (b : Int) - 48 := by
  rw [k48, pk_sub_toInt (by omega) (by omega)]; rfl
theorem sub48m : (mI 1 - 48).toInt = -49 := by decide
/-- a digit that no letter leads -/
theorem S_dig {B : Nat → Nat} {K a : Nat} (hB : TB B K) (ha : a ≤ K) (lo hi : Int32) (l h : Nat) (hl : lo.toInt = l) (hh : hi.toInt = h) (hh9 : h < 10) : ∃ (d : Option Nat) (a' : Nat), a' ≤ K ∧ (∀ v, d = some v → l ≤ v ∧ v ≤ h) ∧ (∀ n m, 100 < n → TC B K m → m.1 1 2 = nI a → tp_digit n lo hi m = some (dI d, rm_i m 1 2 (nI a'))) ∧ ((d = none ∧ a' = nx B K a ∧ ¬ ((l : Int) ≤ (bx B K a - 48).toInt ∧ (bx B K a - 48).toInt ≤ h)) ∨ (∃ v, d = some v ∧ a' = nx B K a + 1 ∧ bx B K a - 48 = nI v ∧ ((l : Int) ≤ (bx B K a - 48).toInt ∧ (bx B K a - 48).toInt ≤ h))) := by
  have h1 := nx_le (B := B) ha
  by_cases q : (l : Int) ≤ (bx B K a - 48).toInt ∧ (bx B K a - 48).toInt ≤ h
  · have hlt : nx B K a < K := by
      rcases bx_c hB ha with ⟨_, z⟩ | ⟨z, _⟩
      · rw [z, sub48m] at q; omega
      · exact z
    obtain ⟨v, hv, ev⟩ := i_nat (x := bx B K a - 48) (k := 10) (by omega) (by omega)
    refine ⟨some v, nx B K a + 1, by omega, fun w hw => ?_, fun n m hn hT h => ?_, Or.inr ⟨v, rfl, rfl, ev, q⟩⟩
    · injection hw with hw
      rw [ev, nI_int (by omega)] at q
      omega
    · unfold tp_digit
      rw [c_peek hB ha hn hT h]
      simp only [Option.bind_some]
      rw [if_neg (by rw [i_lt]; omega), if_neg (by rw [i_lt]; omega), g12, nI_1, mi_mi, ev]
      rfl
  · refine ⟨none, nx B K a, by omega, fun w hw => (by cases hw), fun n m hn hT h => ?_, Or.inl ⟨rfl, rfl, q⟩⟩
    unfold tp_digit
    rw [c_peek hB ha hn hT h]
    simp only [Option.bind_some]
    by_cases q2 : bx B K a - 48 < lo
    · rw [if_pos q2]; rfl
    · rw [if_neg q2, if_pos (by rw [i_lt] at *; omega)]; rfl
/-- a letter and a digit -/
theorem S_rd {B : Nat → Nat} {K a : Nat} (hB : TB B K) (ha : a ≤ K) (L lo hi : Int32) (l h : Nat) (hL : 0 ≤ L.toInt) (hl : lo.toInt = l) (hh : hi.toInt = h) (hh9 : h < 10) : ∃ (d : Option Nat) (a' : Nat), a' ≤ K ∧ (∀ v, d = some v → l ≤ v ∧ v ≤ h) ∧ (∃ (r : Int32) (a1 : Nat), (r = 0 ∨ r = 1) ∧ (∀ n m, 100 < n → TC B K m → m.1 1 2 = nI a → tp_take n L m = some (r, rm_i m 1 2 (nI a1))) ∧ (r = 0 → d = none ∧ a' = a1) ∧ (r = 1 → ∀ n m, 100 < n → TC B K m → m.1 1 2 = nI a1 → tp_digit n lo hi m = some (dI d, rm_i m 1 2 (nI a')))) ∧ (∀ n m, 100 < n → TM B K m → m.1 115 3 = nI a → mo_readDigit n L lo hi m = some (dI d, rm_i m 115 3 (nI a'))) := by
  obtain ⟨r, a1, b1, b2, b3, b4⟩ := S_take hB ha L hL
  obtain ⟨d, a2, c1, c2, c3, c5⟩ := S_dig hB b1 lo hi l h hl hh hh9
  rcases b2 with rfl | rfl
  · refine ⟨none, a1, b1, fun v hv => (by cases hv), ⟨0, a1, Or.inl rfl, b3, fun _ => ⟨rfl, rfl⟩, fun z => absurd z (by decide)⟩, fun n m hn hT h => ?_⟩
    unfold mo_readDigit
    rw [b4 n m hn hT h]
    simp only [Option.bind_some, if_true]
    rfl
  · refine ⟨d, a2, c1, c2, ⟨1, a1, Or.inr rfl, b3, fun z => absurd z (by decide), fun _ => c3⟩, fun n m hn hT h => ?_⟩
    unfold mo_readDigit
    rw [b4 n m hn hT h]
    simp only [Option.bind_some, if_neg (show ¬ (1 : Int32) = 0 by decide)]
    rw [m_next hB b1 hn (TM_k hT (by omega) (by omega)) (by rw [mi_get, if_pos ⟨rfl, rfl⟩]), mi_mi]
    simp only [Option.bind_some]
    rw [mo_in_i n _ _ _ l _ _ (by rw [Int32.toInt_toInt64, hl]) (by rw [Int32.toInt_toInt64, hh])]
    simp only [Option.bind_some]
    rcases c5 with ⟨rfl, rfl, e3⟩ | ⟨v, rfl, rfl, e3, e4⟩
    · rw [if_pos (b00 e3)]; rfl
    · rw [if_neg (b10 e4), g115, nI_1, mi_mi, e3]; rfl
def suo (x : Int32) : Option Nat := if x = 115 then some 0 else if x = 104 then some 1 else if x = 100 then some 2 else if x = 99 then some 3 else none
theorem suo_lt {x : Int32} {v : Nat} (h : suo x = some v) : v < 4 := by
  unfold suo at h
  repeat' split at h
  all_goals first | (injection h with h; omega) | cases h
theorem c_suit {B : Nat → Nat} {K a n : Nat} {m : rn_Mem} (hB : TB B K) (ha : a ≤ K) (hn : 100 < n) (hT : TC B K m) (h : m.1 1 2 = nI a) : tp_peekSuit n m = some (dI (suo (bx B K a)), rm_i m 1 2 (nI (nx B K a))) := by
  unfold tp_peekSuit
  rw [c_peek hB ha hn hT h]
  simp only [Option.bind_some]
  unfold suo
  by_cases q1 : bx B K a = 99
  · rw [q1]; rfl
  rw [if_neg q1]
  by_cases q2 : bx B K a = 100
  · rw [q2]; rfl
  rw [if_neg q2]
  by_cases q3 : bx B K a = 104
  · rw [q3]; rfl
  rw [if_neg q3]
  by_cases q4 : bx B K a = 115
  · rw [q4]; rfl
  rw [if_neg q4, if_neg q4, if_neg q3, if_neg q2, if_neg q1]
  rfl
theorem suo_in {B : Nat → Nat} {K a v : Nat} (hB : TB B K) (ha : a ≤ K) (h : suo (bx B K a) = some v) : nx B K a < K := by
  rcases bx_c hB ha with ⟨_, q⟩ | ⟨q, _⟩
  · rw [q, show suo (mI 1) = none by decide] at h; cases h
  · exact q
def sua (B : Nat → Nat) (K a : Nat) : Nat := if (suo (bx B K a)).isSome = true then nx B K a + 1 else nx B K a
theorem sua_le {B : Nat → Nat} {K a : Nat} (hB : TB B K) (ha : a ≤ K) : sua B K a ≤ K := by
  have h1 := nx_le (B := B) ha
  unfold sua
  cases h : suo (bx B K a) with
  | none => simpa using h1.2
  | some v => have := suo_in hB ha h; simp; omega
theorem m_suit {B : Nat → Nat} {K a n : Nat} {m : rn_Mem} (hB : TB B K) (ha : a ≤ K) (hn : 100 < n) (hT : TM B K m) (h : m.1 115 3 = nI a) : mo_readSuit n m = some (dI (suo (bx B K a)), rm_i m 115 3 (nI (sua B K a))) := by
  have hs : (if bx B K a = 115 then some (0 : Int32) else if bx B K a = 104 then some 1 else if bx B K a = 100 then some 2 else if bx B K a = 99 then some 3 else some (-1)) = some (dI (suo (bx B K a))) := by
    unfold suo
    by_cases q4 : bx B K a = 115
    · rw [if_pos q4, if_pos q4]; rfl
    rw [if_neg q4, if_neg q4]
    by_cases q3 : bx B K a = 104
    · rw [if_pos q3, if_pos q3]; rfl
    rw [if_neg q3, if_neg q3]
    by_cases q2 : bx B K a = 100
    · rw [if_pos q2, if_pos q2]; rfl
    rw [if_neg q2, if_neg q2]
    by_cases q1 : bx B K a = 99
    · rw [if_pos q1, if_pos q1]; rfl
    rw [if_neg q1, if_neg q1]; rfl
  unfold mo_readSuit
  rw [m_next hB ha hn hT h]
  simp only [Option.bind_some]
  rw [hs]
  simp only [Option.bind_some]
  unfold sua
  cases e : suo (bx B K a) with
  | none =>
    rw [if_pos (show dI none < 0 by decide)]
    simp only [Option.bind_some]
    rw [g115, k0, nI_add, Nat.add_zero, mi_mi]
    rfl
  | some v =>
    have := suo_lt e
    rw [if_neg (by rw [show dI (some v) = nI v from rfl, k0, nI_ltI (by omega) (by omega)]; omega)]
    simp only [Option.bind_some]
    rw [g115, nI_1, mi_mi]
    rfl
/-- a card: x what is barred, y what may be -/
theorem S_card {B : Nat → Nat} {K a : Nat} (hB : TB B K) (ha : a ≤ K) (x y : Int32) (hxy : ∀ c, c < 16 → (((x >>> (nI c &&& 31)) &&& 1) = 0 ↔ ¬ ((y >>> (nI c &&& 31)) &&& 1) = 0)) : ∃ (d : Option Nat) (a' : Nat), a' ≤ K ∧ (∀ v, d = some v → v < 16 ∧ ¬ ((y >>> (nI v &&& 31)) &&& 1) = 0) ∧ (∀ n m, 100 < n → TC B K m → m.1 1 2 = nI a → tp_card n x m = some (dI d, rm_i m 1 2 (nI a'))) ∧ (∀ n m, 100 < n → TM B K m → m.1 115 3 = nI a → mo_readCard n y m = some (dI d, rm_i m 115 3 (nI a'))) := by
  have h1 := nx_le (B := B) ha
  cases e : suo (bx B K a) with
  | none =>
    refine ⟨none, nx B K a, by omega, fun v hv => (by cases hv), fun n m hn hT h => ?_, fun n m hn hT h => ?_⟩
    · unfold tp_card
      rw [c_suit hB ha hn hT h, e]
      simp only [Option.bind_some]
      rw [if_pos (show dI none < 0 by decide)]
      rfl
    · unfold mo_readCard
      rw [m_suit hB ha hn hT h]
      unfold sua
      rw [e]
      simp only [Option.bind_some]
      rw [if_pos (show dI none < 0 by decide)]
      rfl
  | some s =>
    have hs := suo_lt e
    have hlt := suo_in hB ha e
    have hs0 : ¬ dI (some s) < 0 := by rw [show dI (some s) = nI s from rfl, k0, nI_ltI (by omega) (by omega)]; omega
    have hsu : sua B K a = nx B K a + 1 := by unfold sua; rw [e]; rfl
    have ha2 : nx B K a + 1 ≤ K := by omega
    have h2 := nx_le (B := B) ha2
    have hC : ∀ n m, 100 < n → TC B K m → m.1 1 2 = nI a → tp_card n x m = (if bx B K (nx B K a + 1) - 48 < 0 then some ((-1), rm_i m 1 2 (nI (nx B K (nx B K a + 1)))) else if 3 < bx B K (nx B K a + 1) - 48 then some ((-1), rm_i m 1 2 (nI (nx B K (nx B K a + 1)))) else if ((x >>> ((((4 : Int32) * nI s) + (bx B K (nx B K a + 1) - 48)) &&& 31)) &&& 1) = 0 then some (((4 : Int32) * nI s) + (bx B K (nx B K a + 1) - 48), rm_i m 1 2 (nI (nx B K (nx B K a + 1) + 1))) else some ((-1), rm_i m 1 2 (nI (nx B K (nx B K a + 1))))) := by
      intro n m hn hT h
      unfold tp_card
      rw [c_suit hB ha hn hT h, e]
      simp only [Option.bind_some]
      rw [if_neg hs0, g12, nI_1, mi_mi, c_peek hB ha2 hn (TC_k hT (by omega) (by omega)) (by rw [mi_get, if_pos ⟨rfl, rfl⟩]), mi_mi]
      simp only [Option.bind_some]
      rw [g12, nI_1, mi_mi]
      rfl
    have hM : ∀ n m, 100 < n → TM B K m → m.1 115 3 = nI a → mo_readCard n y m = (if 0 ≤ (bx B K (nx B K a + 1) - 48).toInt ∧ (bx B K (nx B K a + 1) - 48).toInt ≤ 3 then if ((y >>> ((((4 : Int32) * nI s) + (bx B K (nx B K a + 1) - 48)) &&& 31)) &&& 1) = 0 then some ((-1), rm_i m 115 3 (nI (nx B K (nx B K a + 1)))) else some (((4 : Int32) * nI s) + (bx B K (nx B K a + 1) - 48), rm_i m 115 3 (nI (nx B K (nx B K a + 1) + 1))) else some ((-1), rm_i m 115 3 (nI (nx B K (nx B K a + 1))))) := by
      intro n m hn hT h
      unfold mo_readCard
      rw [m_suit hB ha hn hT h, hsu, e]
      simp only [Option.bind_some]
      rw [if_neg hs0, m_next hB ha2 hn (TM_k hT (by omega) (by omega)) (by rw [mi_get, if_pos ⟨rfl, rfl⟩]), mi_mi]
      simp only [Option.bind_some]
      rw [mo_in_i n _ 0 3 0 3 _ (by decide) (by decide)]
      simp only [Option.bind_some]
      by_cases q : 0 ≤ (bx B K (nx B K a + 1) - 48).toInt ∧ (bx B K (nx B K a + 1) - 48).toInt ≤ 3
      · rw [if_pos q, if_pos q, if_neg (show ¬ (1 : Int32) = 0 by decide), g115, nI_1, mi_mi]
        rfl
      · rw [if_neg q, if_neg q, if_pos rfl]
    by_cases q : 0 ≤ (bx B K (nx B K a + 1) - 48).toInt ∧ (bx B K (nx B K a + 1) - 48).toInt ≤ 3
    · have hlt2 : nx B K (nx B K a + 1) < K := by
        rcases bx_c hB ha2 with ⟨_, h⟩ | ⟨h, _⟩
        · rw [h, sub48m] at q; omega
        · exact h
      obtain ⟨v, hv, ev⟩ := i_nat (x := bx B K (nx B K a + 1) - 48) (k := 4) q.1 (by omega)
      have ecd : (4 : Int32) * nI s + nI v = nI (4 * s + v) := by rw [k4, pk_mul, nI_add]
      rw [ev] at hC hM
      rw [ecd] at hC hM
      have h12 : ¬ nI v < 0 := by rw [k0, nI_ltI (by omega) (by omega)]; omega
      have h13 : ¬ 3 < nI v := by rw [k3, nI_ltI (by omega) (by omega)]; omega
      have h14 : 0 ≤ (nI v).toInt ∧ (nI v).toInt ≤ 3 := by rw [nI_int (by omega)]; omega
      have hx := hxy (4 * s + v) (by omega)
      by_cases q2 : ((x >>> (nI (4 * s + v) &&& 31)) &&& 1) = 0
      · refine ⟨some (4 * s + v), nx B K (nx B K a + 1) + 1, by omega, fun w hw => ?_, fun n m hn hT h => ?_, fun n m hn hT h => ?_⟩
        · injection hw with hw
          subst hw
          exact ⟨by omega, hx.mp q2⟩
        · rw [hC n m hn hT h, if_neg h12, if_neg h13, if_pos q2]; rfl
        · rw [hM n m hn hT h, if_pos h14, if_neg (hx.mp q2)]; rfl
      · refine ⟨none, nx B K (nx B K a + 1), by omega, fun w hw => (by cases hw), fun n m hn hT h => ?_, fun n m hn hT h => ?_⟩
        · rw [hC n m hn hT h, if_neg h12, if_neg h13, if_neg q2]; rfl
        · rw [hM n m hn hT h, if_pos h14, if_pos (Classical.not_not.mp (mt hx.mpr q2))]; rfl
    · refine ⟨none, nx B K (nx B K a + 1), by omega, fun w hw => (by cases hw), fun n m hn hT h => ?_, fun n m hn hT h => ?_⟩
      · rw [hC n m hn hT h]
        by_cases q2 : bx B K (nx B K a + 1) - 48 < 0
        · rw [if_pos q2]; rfl
        · rw [if_neg q2, if_pos (by rw [i_lt, t0] at q2; rw [i_lt, t3]; omega)]; rfl
      · rw [hM n m hn hT h, if_neg q]; rfl
/-- the end -/
theorem S_end {B : Nat → Nat} {K a : Nat} (hB : TB B K) (ha : a ≤ K) : ∃ e : Int32, (e = 0 ∨ e = 1) ∧ (∀ n m, 100 < n → TC B K m → m.1 1 2 = nI a → tp_ended n m = some (e, rm_i m 1 2 (nI (nx B K a)))) ∧ (e = 1 ↔ bx B K a < 0) := by
  by_cases q : bx B K a < 0
  · refine ⟨1, Or.inr rfl, fun n m hn hT h => ?_, by simp [q]⟩
    unfold tp_ended
    rw [c_peek hB ha hn hT h]
    simp only [Option.bind_some]
    rw [if_pos q]
  · refine ⟨0, Or.inl rfl, fun n m hn hT h => ?_, ⟨fun h => absurd h (by decide), fun h => absurd h q⟩⟩
    unfold tp_ended
    rw [c_peek hB ha hn hT h]
    simp only [Option.bind_some]
    rw [if_neg q]
