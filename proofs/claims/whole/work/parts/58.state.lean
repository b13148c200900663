/-! THE STATE: an abstract row S of numbers, the reference's z and the class's State against it -/
theorem t0 : (0 : Int32).toInt = 0 := by decide
theorem t1 : (1 : Int32).toInt = 1 := by decide
theorem t2 : (2 : Int32).toInt = 2 := by decide
theorem t3 : (3 : Int32).toInt = 3 := by decide
theorem t4 : (4 : Int32).toInt = 4 := by decide
theorem t5 : (5 : Int32).toInt = 5 := by decide
theorem t6 : (6 : Int32).toInt = 6 := by decide
theorem t7 : (7 : Int32).toInt = 7 := by decide
theorem t11 : (11 : Int32).toInt = 11 := by decide
theorem t12 : (12 : Int32).toInt = 12 := by decide
theorem t15 : (15 : Int32).toInt = 15 := by decide
theorem t16 : (16 : Int32).toInt = 16 := by decide
theorem t30 : (30 : Int32).toInt = 30 := by decide
theorem t65535 : (65535 : Int32).toInt = 65535 := by decide
theorem tm1 : (-1 : Int32).toInt = -1 := by decide
/-- how many cards lie face down -/
def uc (S : Nat → Nat) : Nat := fb_sm (fun c => fb_ct (fun i => decide (16 ≤ S (16 + 12 * c + i))) (S (12 + c))) (S 1)
def WG (S : Nat → Nat) : Prop := 2 ≤ S 1 ∧ S 1 ≤ 4 ∧ 1 ≤ S 2 ∧ S 2 ≤ 4 ∧ S 1 * S 2 ≤ 12 ∧ S 3 < 65536 ∧ S 4 ≤ 4 ∧ S 5 ≤ 2 ∧ S 6 ≤ 1 ∧ S 7 ≤ 1 ∧ (S 8 < S 1 ∨ S 8 = 4) ∧ fb_ct (fun i => (S 3).testBit i) 16 = S 1 * S 2
def WT (S : Nat → Nat) : Prop := S 9 ≤ 1 ∧ (S 9 = 1 → (∀ c, c < S 1 → S (12 + c) = S (12 + c) / S 1 * S 1) ∧ fb_sm (fun c => S (12 + c)) (S 1) = S 1 * S 2 ∧ (∀ c i, c < S 1 → i < S (12 + c) → S (16 + 12 * c + i) ≤ 16 ∧ (S (16 + 12 * c + i) < 16 → (S 3).testBit (S (16 + 12 * c + i)) = true)) ∧ (∀ c i d j, c < S 1 → i < S (12 + c) → d < S 1 → j < S (12 + d) → S (16 + 12 * c + i) < 16 → S (16 + 12 * c + i) = S (16 + 12 * d + j) → c = d ∧ i = j) ∧ uc S ≤ 3)
def WK (S : Nat → Nat) (k : Nat) : Prop := (S (64 + 4 * k) = 0 ∧ S (65 + 4 * k) < S 1 ∧ S (66 + 4 * k) < 16 ∧ (S 3).testBit (S (66 + 4 * k)) = true ∧ S (67 + 4 * k) = 0) ∨ (S (64 + 4 * k) = 1 ∧ S (65 + 4 * k) < S 1 ∧ S (66 + 4 * k) < S 2 ∧ S (67 + 4 * k) = 0) ∨ (S (64 + 4 * k) = 2 ∧ S (65 + 4 * k) < 16 ∧ (S 3).testBit (S (65 + 4 * k)) = true ∧ S (66 + 4 * k) < 16 ∧ (S 3).testBit (S (66 + 4 * k)) = true ∧ S (65 + 4 * k) ≠ S (66 + 4 * k) ∧ S (67 + 4 * k) = 0) ∨ (S (64 + 4 * k) = 3 ∧ S (65 + 4 * k) < S 1 ∧ S (66 + 4 * k) < 4 ∧ S (67 + 4 * k) < S 2)
def WC (S : Nat → Nat) : Prop := S 10 ≤ 6 ∧ ∀ k, k < S 10 → WK S k
def WR (S : Nat → Nat) : Prop := S 11 ≤ 1 ∧ (S 11 = 1 → S 88 < S 1 ∧ (∀ i, i < S 1 * S 2 → S (89 + i) < 16 ∧ (S 3).testBit (S (89 + i)) = true) ∧ ∀ i j, i < S 1 * S 2 → j < S 1 * S 2 → S (89 + i) = S (89 + j) → i = j)
def WF (S : Nat → Nat) : Prop := (S 0 = 0 ∧ S 9 = 0 ∧ S 10 = 0 ∧ S 11 = 0) ∨ (S 0 = 1 ∧ WG S ∧ WT S ∧ WC S ∧ WR S)
/-- the reference's row -/
def zOK (S : Nat → Nat) (z : Nat → Int32) : Prop := (∀ k, k < 101 → k ≠ 4 → k ≠ 8 → (k < 16 ∨ 64 ≤ k) → z k = nI (S k)) ∧ z 4 = zT (S 4) ∧ z 8 = zT (S 8) ∧ ∀ k, 16 ≤ k → k < 64 → z k = zC (S k)
/-- the class's Game -/
def cGa (S : Nat → Nat) (g : Nat → Int32) : Prop := g 0 = nI (S 0) ∧ (S 0 = 1 → g 1 = nI (S 1) ∧ g 2 = nI (S 2) ∧ g 3 = nI (S 3) ∧ g 4 = cT (S 4) ∧ g 5 = nI (S 5) ∧ g 6 = nI (S 6) ∧ g 7 = nI (S 7) ∧ g 8 = cT (S 8))
/-- its Table -/
def cTa (S : Nat → Nat) (t sz wo ca : Nat → Int32) : Prop := t 0 = nI (S 9) ∧ (S 9 = 1 → (∀ c, c < S 1 → sz c = nI (S (12 + c)) ∧ wo c = nI (S (12 + c) / S 1)) ∧ (∀ c i, c < S 1 → i < S (12 + c) → ca (12 * c + i) = cC (S (16 + 12 * c + i))) ∧ t 6 = nI (uc S) ∧ ∃ B, t 5 = nI B ∧ B < 65536 ∧ ∀ x, x < 16 → (B.testBit x = true ↔ ∃ c i, c < S 1 ∧ i < S (12 + c) ∧ S (16 + 12 * c + i) = x))
/-- its Clues -/
def cCl (S : Nat → Nat) (t kk ka kb kc : Nat → Int32) : Prop := t 0 = nI (S 10) ∧ ∀ k, k < S 10 → kk k = nI (S (64 + 4 * k)) ∧ ka k = nI (S (65 + 4 * k)) ∧ kb k = nI (S (66 + 4 * k)) ∧ kc k = nI (S (67 + 4 * k))
/-- a row of cards played: who leads each trick, who wins it, who plays at a place -/
def bts (tr x y : Nat) : Bool := if x / 4 = y / 4 then decide (y < x) else decide (x / 4 = tr)
def wp (tr : Nat) (f : Nat → Nat) : Nat → Nat
  | 0 => 0
  | k + 1 => if bts tr (f (k + 1)) (f (wp tr f k)) = true then k + 1 else wp tr f k
def rl (n tr ls b : Nat) (f : Nat → Nat) : Nat → Nat
  | 0 => b
  | k + 1 => if ls = 0 then (rl n tr ls b f k + wp tr (fun j => f (n * k + j)) (n - 1)) % n else (rl n tr ls b f k + 1) % n
def rwn (n tr ls b : Nat) (f : Nat → Nat) (k : Nat) : Nat := (rl n tr ls b f k + wp tr (fun j => f (n * k + j)) (n - 1)) % n
def rpa (n tr ls b : Nat) (f : Nat → Nat) (i : Nat) : Nat := (rl n tr ls b f (i / n) + i % n) % n
def Sl (S : Nat → Nat) : Nat → Nat := rl (S 1) (S 4) (S 6) (S 88) fun i => S (89 + i)
def Sw (S : Nat → Nat) : Nat → Nat := rwn (S 1) (S 4) (S 6) (S 88) fun i => S (89 + i)
def Sp (S : Nat → Nat) : Nat → Nat := rpa (S 1) (S 4) (S 6) (S 88) fun i => S (89 + i)
/-- the class's Row; V: what side 0 can still win from a place on -/
def cRo (S V : Nat → Nat) (t ca pl wn re : Nat → Int32) : Prop := t 0 = nI (S 11) ∧ (S 11 = 1 → t 1 = nI (S 88) ∧ (∀ i, i < S 1 * S 2 → ca i = nI (S (89 + i)) ∧ pl i = nI (Sp S i) ∧ wn i = nI (Sw S (i / S 1))) ∧ ∀ i, i < S 1 * S 2 → re i = mI 1 ∨ re i = nI (V i))
def cSt (S V : Nat → Nat) (p : Nat) (m : rn_Mem) : Prop := cGa S (m.1 (p + 1)) ∧ cTa S (m.1 (p + 2)) (m.1 (p + 3)) (m.1 (p + 4)) (m.1 (p + 5)) ∧ cCl S (m.1 (p + 6)) (m.1 (p + 7)) (m.1 (p + 8)) (m.1 (p + 9)) (m.1 (p + 10)) ∧ cRo S V (m.1 (p + 11)) (m.1 (p + 12)) (m.1 (p + 13)) (m.1 (p + 14)) (m.1 (p + 15))
/-- no other place changed -/
def Kr (P : Nat → Prop) (m m2 : rn_Mem) : Prop := ∀ p, ¬ P p → m2.1 p = m.1 p ∧ m2.2 p = m.2 p
theorem Kr.rf {P : Nat → Prop} {m : rn_Mem} : Kr P m m := fun _ _ => ⟨rfl, rfl⟩
theorem Kr.tr {P : Nat → Prop} {m m1 m2 : rn_Mem} (h : Kr P m m1) (h2 : Kr P m1 m2) : Kr P m m2 := fun p hp => ⟨(h2 p hp).1.trans (h p hp).1, (h2 p hp).2.trans (h p hp).2⟩
theorem Kr.mono {P Q : Nat → Prop} {m m1 : rn_Mem} (h : Kr P m m1) (hs : ∀ p, P p → Q p) : Kr Q m m1 := fun p hp => h p fun z => hp (hs p z)
theorem Kr.sti {P : Nat → Prop} {m m1 : rn_Mem} {p i : Nat} {x : Int32} (h : Kr P m m1) (hp : P p) : Kr P m (rm_i m1 p i x) := by
  intro q hq
  refine ⟨?_, (h q hq).2⟩
  rw [← (h q hq).1]
  funext j
  rw [mi_get, if_neg]
  intro z
  exact hq (z.1 ▸ hp)
theorem Kr.stj {P : Nat → Prop} {m m1 : rn_Mem} {p i : Nat} {x : Int64} (h : Kr P m m1) (hp : P p) : Kr P m (rm_j m1 p i x) := by
  intro q hq
  refine ⟨(h q hq).1, ?_⟩
  rw [← (h q hq).2]
  funext j
  rw [mj_get, if_neg]
  intro z
  exact hq (z.1 ▸ hp)
theorem Kr.stc {P : Nat → Prop} {m m1 : rn_Mem} {p q a b n : Nat} (h : Kr P m m1) (hp : P q) : Kr P m (rm_c m1 p q a b n) := by
  intro r hr
  refine ⟨?_, (h r hr).2⟩
  rw [← (h r hr).1]
  funext j
  rw [mc_get, if_neg]
  intro z
  exact hr (z.1 ▸ hp)
theorem mo_isChair_eq (n : Nat) (S : Nat → Nat) (a : Int32) (m : rn_Mem) (h1 : m.1 116 1 = nI (S 1)) (h : 1 ≤ S 1 ∧ S 1 ≤ 4) : mo_isChair n a m = some (if 0 ≤ a.toInt ∧ a.toInt < S 1 then 1 else 0, m) := by
  unfold mo_isChair
  rw [h1, show nI (S 1) - 1 = nI (S 1 - 1) from pk_sub (b := 1) h.1, mo_in_i n a 0 _ 0 (S 1 - 1) m (by decide) (by rw [Int32.toInt_toInt64, nI_int (by omega)]; omega)]
  simp only [Option.bind_some]
  by_cases g : 0 ≤ a.toInt ∧ a.toInt < S 1
  · have g2 : 0 ≤ a.toInt ∧ a.toInt ≤ (S 1 : Int) - 1 := by omega
    simp only [g, g2, and_self, if_true]
    rfl
  · have g2 : ¬ (0 ≤ a.toInt ∧ a.toInt ≤ (S 1 : Int) - 1) := by omega
    simp only [g, g2, if_false]
    rfl
theorem mo_isInPack_eq (n : Nat) (S : Nat → Nat) (x : Nat) (m : rn_Mem) (hx : x < 2 ^ 31) (h1 : m.1 116 3 = nI (S 3)) (h : S 3 < 65536) : mo_isInPack n (nI x) m = some (if (S 3).testBit x = true then 1 else 0, m) := by
  unfold mo_isInPack
  rw [mo_in_i n (nI x) 0 15 0 15 m (by decide) (by decide), nI_int hx]
  simp only [Option.bind_some]
  by_cases g : x < 16
  · have g2 : (0 : Int) ≤ (x : Int) ∧ (x : Int) ≤ 15 := by omega
    simp only [g2, and_self, if_true]
    rw [if_neg (by decide), h1]
    simp only [bit_1 (show S 3 < 2 ^ 31 by omega) (show x < 32 by omega)]
    split <;> rfl
  · have g2 : ¬ ((0 : Int) ≤ (x : Int) ∧ (x : Int) ≤ 15) := by omega
    simp only [g2, if_false, if_true]
    rw [bit_high (a := S 3) (k := 16) (by omega) (by omega)]
    rfl
theorem ga_has_eq (n g : Nat) (P x : Nat) (m : rn_Mem) (hx : x < 2 ^ 31) (h1 : m.1 g 3 = nI P) (h : P < 65536) : ga_has n g (nI x) m = some (if P.testBit x = true then 1 else 0, m) := by
  unfold ga_has
  simp only [i_lt, t0, t16, nI_int hx]
  rw [if_neg (show ¬ ((x : Int) < 0) by omega)]
  by_cases g1 : x < 16
  · rw [if_pos (show (x : Int) < 16 by omega), h1]
    simp only [bit_0 (show P < 2 ^ 31 by omega) (show x < 32 by omega)]
    cases P.testBit x <;> rfl
  · rw [if_neg (show ¬ ((x : Int) < 16) by omega), bit_high (a := P) (k := 16) (by omega) (by omega)]
    rfl
theorem lt_isNoChair_eq (n : Nat) (a : Int32) (m : rn_Mem) : lt_isNoChair n a m = some (if 0 ≤ a.toInt ∧ a.toInt ≤ 3 then 0 else 1, m) := by
  unfold lt_isNoChair
  simp only [i_lt, t0, t4]
  split
  · rw [if_neg (by omega)]
  · split
    · rw [if_pos (by omega)]
    · rw [if_neg (by omega)]
theorem lt_isNoTrick_eq (n : Nat) (a : Int32) (m : rn_Mem) : lt_isNoTrick n a m = some (if 0 ≤ a.toInt ∧ a.toInt ≤ 3 then 0 else 1, m) := by
  unfold lt_isNoTrick
  simp only [i_lt, t0, t4]
  split
  · rw [if_neg (by omega)]
  · split
    · rw [if_pos (by omega)]
    · rw [if_neg (by omega)]
/-- the State of now -/
def SR (S V : Nat → Nat) (m : rn_Mem) : Prop := WF S ∧ zOK S (m.1 116) ∧ cSt S V 3 m
theorem S_kr {S V : Nat → Nat} {m m2 : rn_Mem} (h : SR S V m) (hz : m2.1 116 = m.1 116) (hc : ∀ p, 3 ≤ p → p ≤ 18 → m2.1 p = m.1 p) : SR S V m2 := by
  obtain ⟨h1, h2, h3⟩ := h
  refine ⟨h1, by rw [hz]; exact h2, ?_⟩
  unfold cSt
  rw [hc (3 + 1) (by omega) (by omega), hc (3 + 2) (by omega) (by omega), hc (3 + 3) (by omega) (by omega), hc (3 + 4) (by omega) (by omega), hc (3 + 5) (by omega) (by omega), hc (3 + 6) (by omega) (by omega), hc (3 + 7) (by omega) (by omega), hc (3 + 8) (by omega) (by omega), hc (3 + 9) (by omega) (by omega), hc (3 + 10) (by omega) (by omega), hc (3 + 11) (by omega) (by omega), hc (3 + 12) (by omega) (by omega), hc (3 + 13) (by omega) (by omega), hc (3 + 14) (by omega) (by omega), hc (3 + 15) (by omega) (by omega)]
  exact h3
theorem A_told {n : Nat} (a : Int32) (m : rn_Mem) (S V : Nat → Nat) (hR : SR S V m) : ∃ r : Int32, lt_told n a m = some (r, m) ∧ mo_told n a m = some (r, m) := by
  obtain ⟨hw, ⟨z1, z2, z3, z4⟩, ⟨g0, g1⟩, _⟩ := hR
  refine L_told a m ?_
  refine ⟨by rw [g0, z1 0 (by omega) (by omega) (by omega) (by omega)], ?_, ?_⟩
  · rw [z1 0 (by omega) (by omega) (by omega) (by omega)]
    rcases hw with h | h
    · left; rw [h.1]; rfl
    · right; rw [h.1]; rfl
  · intro h
    rw [z1 0 (by omega) (by omega) (by omega) (by omega)] at h
    have h0 : S 0 = 1 := by
      rcases hw with q | q
      · rw [q.1] at h; exact absurd h (by decide)
      · exact q.1
    obtain ⟨e1, e2, e3, e4, e5, e6, e7, e8⟩ := g1 h0
    rcases hw with q | ⟨_, ⟨w1, w2, w3, w4, w5, w6, w7, w8, w9, w10, w11, _⟩, _⟩
    · omega
    have hs : ∀ v, v ≤ 4 → sg (cT v) (zT v) := by
      intro v hv
      unfold sg cT zT
      split
      · left; rw [nI_int (by omega)]; exact ⟨by omega, rfl⟩
      · right; rw [mI_int (by omega)]; exact ⟨by omega, by decide⟩
    refine ⟨⟨S 1, S 2, S 3, w1, w2, w3, w4, w5, w6, z1 1 (by omega) (by omega) (by omega) (by omega), z1 2 (by omega) (by omega) (by omega) (by omega), z1 3 (by omega) (by omega) (by omega) (by omega), ?_, ?_, ?_, ?_, ?_⟩, ?_, ?_, ?_, ?_, ?_, ?_, ?_, ?_⟩
    · rw [z2]; unfold zT
      split
      · right; rw [nI_int (by omega)]; omega
      · left; decide
    · rw [z1 5 (by omega) (by omega) (by omega) (by omega), nI_int (by omega)]; omega
    · rw [z1 6 (by omega) (by omega) (by omega) (by omega), nI_int (by omega)]; omega
    · rw [z1 7 (by omega) (by omega) (by omega) (by omega), nI_int (by omega)]; omega
    · rw [z3]; unfold zT
      split
      · right; rw [nI_int (by omega)]; omega
      · left; decide
    · rw [e1, z1 1 (by omega) (by omega) (by omega) (by omega)]
    · rw [e2, z1 2 (by omega) (by omega) (by omega) (by omega)]
    · rw [e3, z1 3 (by omega) (by omega) (by omega) (by omega)]
    · rw [e4, z2]; exact hs _ w7
    · rw [e5, z1 5 (by omega) (by omega) (by omega) (by omega)]
    · rw [e6, z1 6 (by omega) (by omega) (by omega) (by omega)]
    · rw [e7, z1 7 (by omega) (by omega) (by omega) (by omega)]
    · rw [e8, z3]; exact hs _ (by omega)
