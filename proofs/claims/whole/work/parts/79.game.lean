/-! GAME: stage by stage -/
def o01 (ok : Bool) : Int32 := if ok = true then 1 else 0
theorem G_size {B : Nat → Nat} {K : Nat} (hB : TB B K) : ∃ (ok : Bool) (a' c t : Nat), a' ≤ K ∧ (ok = true → 2 ≤ c ∧ c ≤ 4 ∧ 1 ≤ t ∧ t ≤ 4 ∧ c * t ≤ 12) ∧ (∀ n m, 100 < n → TC B K m → m.1 1 2 = nI 0 → ∃ m2, tp_readSize n 36 m = some (o01 ok, m2) ∧ m2.1 1 2 = nI a' ∧ Kq (fun p i => (p = 36 ∧ (i = 1 ∨ i = 2)) ∨ (p = 1 ∧ i = 2)) m m2 ∧ (ok = true → m2.1 36 1 = nI c ∧ m2.1 36 2 = nI t)) ∧ (∀ n m, 100 < n → TM B K m → ∃ m2, mo_readGame n m = (if ok = true then rg_1 n m2 else some (0, m2)) ∧ m2.1 115 3 = nI a' ∧ Km m m2 ∧ (ok = true → m2.1 118 0 = nI c ∧ m2.1 118 1 = nI t)) := by
  obtain ⟨d, a1, x1, x2, ⟨r1, y1, x3, x4, x5, x6⟩, x7⟩ := S_rd hB (Nat.zero_le K) 110 2 4 2 4 (by decide) (by decide) (by decide) (by decide)
  have hM0 : ∀ n m, 100 < n → TM B K m → mo_readGame n m = (if dI d < 0 then some (0, rm_i (rm_i (rm_i m 115 3 0) 115 3 (nI a1)) 118 0 (dI d)) else if ¬ dI d = 0 then (if (12 : Int32) / dI d < 4 then some ((12 : Int32) / dI d) else some 4).bind fun x13 => (mo_readDigit n 116 1 x13 (rm_i (rm_i (rm_i m 115 3 0) 115 3 (nI a1)) 118 0 (dI d))).bind fun (r15, m14) => if r15 < 0 then some (0, rm_i m14 118 1 r15) else (mo_takes n 58 (rm_i m14 118 1 r15)).bind fun (r20, m19) => if r20 = 0 then some (0, m19) else rg_1 n m19 else none) := by
    intro n m hn hT
    unfold mo_readGame
    simp only [Option.bind_some]
    rw [x7 n _ hn (TM_k hT (by omega) (by omega)) (by rw [mi_get, if_pos ⟨rfl, rfl⟩]; rfl)]
    simp only [Option.bind_some, mi_get, true_and, and_self, if_true]
    rfl
  cases d with
  | none =>
    refine ⟨false, a1, 0, 0, x1, fun z => (by cases z), fun n m hn hT h => ?_, fun n m hn hT => ?_⟩
    · refine ⟨rm_i m 1 2 (nI a1), ?_, g12, Kq.rf.sti (Or.inr ⟨rfl, rfl⟩), fun z => (by cases z)⟩
      unfold tp_readSize
      rw [x4 n m hn hT h]
      simp only [Option.bind_some]
      rcases x3 with rfl | rfl
      · obtain ⟨_, rfl⟩ := x5 rfl
        rw [if_pos rfl]
        rfl
      · rw [if_neg (by decide), x6 rfl n _ hn (TC_k hT (by omega) (by omega)) g12, mi_mi]
        simp only [Option.bind_some]
        rw [if_pos (by decide)]
        rfl
    · refine ⟨rm_i (rm_i (rm_i m 115 3 0) 115 3 (nI a1)) 118 0 (dI none), ?_, ?_, ?_, fun z => (by cases z)⟩
      · rw [hM0 n m hn hT, if_pos (by decide)]
        rfl
      · rw [g118, g115]
      · exact Km_v (Km_a (Km_a Kq.rf 0) a1) 0 _
  | some c =>
    obtain ⟨hc2, hc4⟩ := x2 c rfl
    have hr1 : r1 = 1 := by
      rcases x3 with rfl | rfl
      · exact absurd (x5 rfl).1 (by intro z; cases z)
      · rfl
    subst hr1
    have hcI : dI (some c) = nI c := rfl
    have hdv : (12 : Int32) / nI c = nI (12 / c) := by rw [k12, pk_div (by omega) (by omega) (by omega)]
    have htm : ∃ tm, tm ≤ 4 ∧ 1 ≤ tm ∧ c * tm ≤ 12 ∧ (if nI (12 / c) < 4 then some (nI (12 / c)) else some (4 : Int32)) = some (nI tm) ∧ ∀ n m, ja_min n 4 (nI (12 / c)) m = some (nI tm, m) := by
      obtain rfl | rfl | rfl : c = 2 ∨ c = 3 ∨ c = 4 := by omega
      · exact ⟨4, by omega, by omega, by omega, by decide, fun n m => by unfold ja_min; rw [if_neg (by decide)]; rfl⟩
      · exact ⟨4, by omega, by omega, by omega, by decide, fun n m => by unfold ja_min; rw [if_neg (by decide)]; rfl⟩
      · exact ⟨3, by omega, by omega, by omega, by decide, fun n m => by unfold ja_min; rw [if_pos (by decide)]⟩
    obtain ⟨tm, htm4, htm1, htm12, htmM, htmC⟩ := htm
    obtain ⟨d2, a2, z1, z2, ⟨r2, y2, z3, z4, z5, z6⟩, z7⟩ := S_rd hB x1 116 1 (nI tm) 1 tm (by decide) (by decide) (nI_int (by omega)) (by omega)
    have hC1 : ∀ n m, 100 < n → TC B K m → m.1 1 2 = nI 0 → tp_readSize n 36 m = (if r2 = 0 then some (0, rm_i m 1 2 (nI y2)) else (tp_digit n 1 (nI tm) (rm_i m 1 2 (nI y2))).bind fun (r18, m17) => if r18 < 1 then some (0, m17) else (tp_take n 58 (rm_i (rm_i m17 36 1 (nI c)) 36 2 r18)).bind fun (r24, m23) => if r24 = 0 ∨ r24 = 1 then some (r24, m23) else none) := by
      intro n m hn hT h
      unfold tp_readSize
      rw [x4 n m hn hT h]
      simp only [Option.bind_some]
      rw [if_neg (by decide), x6 rfl n _ hn (TC_k hT (by omega) (by omega)) g12, mi_mi, hcI]
      simp only [Option.bind_some]
      rw [if_neg (by rw [k2, nI_ltI (by omega) (by omega)]; omega), z4 n _ hn (TC_k hT (by omega) (by omega)) g12, mi_mi]
      simp only [Option.bind_some]
      rw [if_pos (show ¬ nI c = 0 from nI_ne0 (by omega) (by omega)), hdv, htmC]
      simp only [Option.bind_some]
    have hM1 : ∀ n m, 100 < n → TM B K m → mo_readGame n m = (if dI d2 < 0 then some (0, rm_i (rm_i (rm_i (rm_i (rm_i m 115 3 0) 115 3 (nI a1)) 118 0 (nI c)) 115 3 (nI a2)) 118 1 (dI d2)) else (mo_takes n 58 (rm_i (rm_i (rm_i (rm_i (rm_i m 115 3 0) 115 3 (nI a1)) 118 0 (nI c)) 115 3 (nI a2)) 118 1 (dI d2))).bind fun (r20, m19) => if r20 = 0 then some (0, m19) else rg_1 n m19) := by
      intro n m hn hT
      rw [hM0 n m hn hT, hcI, if_neg (by rw [k0, nI_ltI (by omega) (by omega)]; omega), if_pos (show ¬ nI c = 0 from nI_ne0 (by omega) (by omega)), hdv, htmM]
      simp only [Option.bind_some]
      rw [z7 n _ hn (TM_k (TM_k (TM_k hT (by omega) (by omega)) (by omega) (by omega)) (by omega) (by omega)) (by rw [g118, g115])]
      simp only [Option.bind_some]
    cases d2 with
    | none =>
      refine ⟨false, a2, 0, 0, z1, fun z => (by cases z), fun n m hn hT h => ?_, fun n m hn hT => ?_⟩
      · refine ⟨rm_i m 1 2 (nI a2), ?_, g12, Kq.rf.sti (Or.inr ⟨rfl, rfl⟩), fun z => (by cases z)⟩
        rw [hC1 n m hn hT h]
        rcases z3 with rfl | rfl
        · obtain ⟨_, rfl⟩ := z5 rfl
          rw [if_pos rfl]
          rfl
        · rw [if_neg (by decide), z6 rfl n _ hn (TC_k hT (by omega) (by omega)) g12, mi_mi]
          simp only [Option.bind_some]
          rw [if_pos (by decide)]
          rfl
      · refine ⟨rm_i (rm_i (rm_i (rm_i (rm_i m 115 3 0) 115 3 (nI a1)) 118 0 (nI c)) 115 3 (nI a2)) 118 1 (dI none), ?_, ?_, ?_, fun z => (by cases z)⟩
        · rw [hM1 n m hn hT, if_pos (by decide)]
          rfl
        · rw [g118, g115]
        · exact Km_v (Km_a (Km_v (Km_a (Km_a Kq.rf 0) a1) 0 _) a2) 1 _
    | some t =>
      obtain ⟨ht1, ht4⟩ := z2 t rfl
      have hr2 : r2 = 1 := by
        rcases z3 with rfl | rfl
        · exact absurd (z5 rfl).1 (by intro z; cases z)
        · rfl
      subst hr2
      have hct : c * t ≤ 12 := Nat.le_trans (Nat.mul_le_mul_left c ht4) htm12
      have htI : dI (some t) = nI t := rfl
      obtain ⟨r3, a3, w1, w2, w3, w4⟩ := S_take hB z1 58 (by decide)
      refine ⟨decide (r3 = 1), a3, c, t, w1, fun _ => ⟨hc2, hc4, ht1, by omega, hct⟩, fun n m hn hT h => ?_, fun n m hn hT => ?_⟩
      · refine ⟨rm_i (rm_i (rm_i (rm_i m 1 2 (nI a2)) 36 1 (nI c)) 36 2 (nI t)) 1 2 (nI a3), ?_, g12, (((Kq.rf.sti (Or.inr ⟨rfl, rfl⟩)).sti (Or.inl ⟨rfl, Or.inl rfl⟩)).sti (Or.inl ⟨rfl, Or.inr rfl⟩)).sti (Or.inr ⟨rfl, rfl⟩), fun _ => ⟨?_, ?_⟩⟩
        · rw [hC1 n m hn hT h, if_neg (by decide), z6 rfl n _ hn (TC_k hT (by omega) (by omega)) g12, mi_mi, htI]
          simp only [Option.bind_some]
          rw [if_neg (by rw [k1, nI_ltI (by omega) (by omega)]; omega), w3 n _ hn (TC_k (TC_k (TC_k hT (by omega) (by omega)) (by omega) (by omega)) (by omega) (by omega)) (by rw [g36, g36, g12])]
          simp only [Option.bind_some]
          rw [if_pos w2]
          rcases w2 with rfl | rfl <;> rfl
        · simp (disch := omega) only [mi_get, if_pos, if_neg, true_and, and_true, if_true, and_self]
        · simp (disch := omega) only [mi_get, if_pos, if_neg, true_and, and_true, if_true, and_self]
      · refine ⟨rm_i (rm_i (rm_i (rm_i (rm_i (rm_i m 115 3 0) 115 3 (nI a1)) 118 0 (nI c)) 115 3 (nI a2)) 118 1 (nI t)) 115 3 (nI a3), ?_, g115, Km_a (Km_v (Km_a (Km_v (Km_a (Km_a Kq.rf 0) a1) 0 _) a2) 1 _) a3, fun _ => ⟨?_, ?_⟩⟩
        · rw [hM1 n m hn hT, htI, if_neg (by rw [k0, nI_ltI (by omega) (by omega)]; omega), w4 n _ hn (TM_k (TM_k (TM_k (TM_k (TM_k hT (by omega) (by omega)) (by omega) (by omega)) (by omega) (by omega)) (by omega) (by omega)) (by omega) (by omega)) (by rw [g118, g115])]
          simp only [Option.bind_some]
          rcases w2 with rfl | rfl
          · rw [if_pos rfl]; rfl
          · rw [if_neg (by decide)]; rfl
        · simp (disch := omega) only [mi_get, if_pos, if_neg, true_and, and_true, if_true, and_self]
        · simp (disch := omega) only [mi_get, if_pos, if_neg, true_and, and_true, if_true, and_self]
theorem G_pack {B : Nat → Nat} {K a c t : Nat} (hB : TB B K) (ha : a ≤ K) (hct : c * t ≤ 12) : ∃ (ok : Bool) (a' P : Nat), a' ≤ K ∧ P < 65536 ∧ (ok = true → fb_ct (fun i => P.testBit i) 16 = c * t) ∧ (∀ n m, 120 < n → TC B K m → m.1 1 2 = nI a → m.1 36 1 = nI c → m.1 36 2 = nI t → ∃ m2, tp_readPack n 36 m = some (o01 ok, m2) ∧ m2.1 1 2 = nI a' ∧ Kq (fun p i => (p = 36 ∧ i = 3) ∨ (p = 1 ∧ i = 2)) m m2 ∧ m2.1 36 3 = nI P) ∧ (∀ n m, 120 < n → TM B K m → m.1 115 3 = nI a → m.1 118 0 = nI c → m.1 118 1 = nI t → ∃ m2, rg_1 n m = (if ok = true then rg_2 n m2 else some (0, m2)) ∧ m2.1 115 3 = nI a' ∧ Kq (fun p i => (p = 118 ∧ i = 2) ∨ (p = 115 ∧ i = 3)) m m2 ∧ m2.1 118 2 = nI P) := by
  obtain ⟨ok, a', P, b1, b2, b3, b4, b5⟩ := S_pack hB hct (c * t) 0 0 a (by omega) ha (by omega) (fb_ct_zero.mpr fun k hk => Nat.zero_testBit k)
  refine ⟨ok, a', P, b1, b2, b3, fun n m hn hT h h1 h2 => ?_, fun n m hn hT h h1 h2 => ?_⟩
  · obtain ⟨m2, c1, c2, c3, c4⟩ := b4 n (rm_i m 36 3 0) (by omega) (TC_k hT (by omega) (by omega)) (by rw [g36]; exact h) (by rw [mi_get, if_neg (by omega)]; exact h1) (by rw [mi_get, if_neg (by omega)]; exact h2) (by rw [mi_get, if_pos ⟨rfl, rfl⟩]; rfl)
    refine ⟨m2, ?_, c2, (Kq.rf.sti (Or.inl ⟨rfl, rfl⟩)).tr c4, c3⟩
    unfold tp_readPack
    simp only [Option.bind_some]
    rw [show tp_readPack_l7 36 n 0 (rm_i m 36 3 0) = _ from c1]
    cases ok <;> rfl
  · obtain ⟨m2, c1, c2, c3, c4⟩ := b5 n (rm_i m 118 2 0) (by omega) (TM_k hT (by omega) (by omega)) (by rw [g118]; exact h) (by rw [mi_get, if_neg (by omega)]; exact h1) (by rw [mi_get, if_neg (by omega)]; exact h2) (by rw [mi_get, if_pos ⟨rfl, rfl⟩]; rfl)
    refine ⟨m2, ?_, c2, (Kq.rf.sti (Or.inl ⟨rfl, rfl⟩)).tr c4, c3⟩
    unfold rg_1
    simp only [Option.bind_some]
    rw [show mo_readGame_l92 n 0 (rm_i m 118 2 0) = _ from c1]
    cases ok <;> rfl
theorem G_trump {B : Nat → Nat} {K a : Nat} (hB : TB B K) (ha : a ≤ K) : ∃ (ok : Bool) (a' tr : Nat), a' ≤ K ∧ (ok = true → tr ≤ 4) ∧ (∀ n m, 120 < n → TC B K m → m.1 1 2 = nI a → ∃ m2, tp_readTrump n 36 m = some (o01 ok, m2) ∧ m2.1 1 2 = nI a' ∧ Kq (fun p i => (p = 36 ∧ i = 4) ∨ (p = 1 ∧ i = 2)) m m2 ∧ (ok = true → m2.1 36 4 = cT tr)) ∧ (∀ n m, 120 < n → TM B K m → m.1 115 3 = nI a → ∃ m2, rg_2 n m = (if ok = true then rg_3 n m2 else some (0, m2)) ∧ m2.1 115 3 = nI a' ∧ Kq (fun p i => (p = 118 ∧ i = 3) ∨ (p = 115 ∧ i = 3)) m m2 ∧ (ok = true → m2.1 118 3 = zT tr)) := by
  obtain ⟨r1, a1, w1, w2, w3, w4⟩ := S_take hB ha 45 (by decide)
  rcases w2 with rfl | rfl
  case inr =>
    refine ⟨true, a1, 4, w1, fun _ => by omega, fun n m hn hT h => ?_, fun n m hn hT h => ?_⟩
    · refine ⟨rm_i (rm_i m 36 4 (-1)) 1 2 (nI a1), ?_, g12, (Kq.rf.sti (Or.inl ⟨rfl, rfl⟩)).sti (Or.inr ⟨rfl, rfl⟩), fun _ => ?_⟩
      · unfold tp_readTrump
        simp only [Option.bind_some]
        rw [w3 n _ (by omega) (TC_k hT (by omega) (by omega)) (by rw [g36]; exact h)]
        simp only [Option.bind_some]
        rw [if_neg (by decide)]
        rfl
      · rw [mi_get, if_neg (by omega), mi_get, if_pos ⟨rfl, rfl⟩]; rfl
    · refine ⟨rm_i (rm_i m 118 3 (-4)) 115 3 (nI a1), ?_, g115, (Kq.rf.sti (Or.inl ⟨rfl, rfl⟩)).sti (Or.inr ⟨rfl, rfl⟩), fun _ => ?_⟩
      · unfold rg_2
        simp only [Option.bind_some]
        rw [w4 n _ (by omega) (TM_k hT (by omega) (by omega)) (by rw [g118]; exact h)]
        simp only [Option.bind_some]
        rw [if_neg (by decide)]
        rfl
      · rw [mi_get, if_neg (by omega), mi_get, if_pos ⟨rfl, rfl⟩]; rfl
  obtain ⟨r2, a2, v1, v2, v3, v4⟩ := S_take hB w1 43 (by decide)
  have hC : ∀ n m, 120 < n → TC B K m → m.1 1 2 = nI a → tp_readTrump n 36 m = if r2 = 0 then some ((0 : Int32), rm_i (rm_i m 36 4 (-1)) 1 2 (nI a2)) else (tp_peekSuit n (rm_i (rm_i m 36 4 (-1)) 1 2 (nI a2))).bind fun (r11, m10) => if r11 < 0 then some (0, rm_i m10 36 4 r11) else some (1, rm_i (rm_i m10 36 4 r11) 1 2 ((rm_i m10 36 4 r11).1 1 2 + 1)) := by
    intro n m hn hT h
    unfold tp_readTrump
    simp only [Option.bind_some]
    rw [w3 n _ (by omega) (TC_k hT (by omega) (by omega)) (by rw [g36]; exact h)]
    simp only [Option.bind_some, if_true]
    rw [v3 n _ (by omega) (TC_k (TC_k hT (by omega) (by omega)) (by omega) (by omega)) g12, mi_mi]
    simp only [Option.bind_some, mi_get, true_and, and_self, if_true]
  have hM : ∀ n m, 120 < n → TM B K m → m.1 115 3 = nI a → rg_2 n m = if r2 = 0 then some ((0 : Int32), rm_i (rm_i m 118 3 (-4)) 115 3 (nI a2)) else (mo_readSuit n (rm_i (rm_i m 118 3 (-4)) 115 3 (nI a2))).bind fun (r56, m55) => if r56 < 0 then some (0, rm_i m55 118 3 r56) else rg_3 n (rm_i m55 118 3 r56) := by
    intro n m hn hT h
    unfold rg_2
    simp only [Option.bind_some]
    rw [w4 n _ (by omega) (TM_k hT (by omega) (by omega)) (by rw [g118]; exact h)]
    simp only [Option.bind_some, if_true]
    rw [v4 n _ (by omega) (TM_k (TM_k hT (by omega) (by omega)) (by omega) (by omega)) g115, mi_mi]
    simp only [Option.bind_some, mi_get, true_and, and_self, if_true]
    rfl
  rcases v2 with rfl | rfl
  · refine ⟨false, a2, 0, v1, fun z => (by cases z), fun n m hn hT h => ?_, fun n m hn hT h => ?_⟩
    · exact ⟨_, by rw [hC n m hn hT h, if_pos rfl]; rfl, g12, (Kq.rf.sti (Or.inl ⟨rfl, rfl⟩)).sti (Or.inr ⟨rfl, rfl⟩), fun z => (by cases z)⟩
    · exact ⟨_, by rw [hM n m hn hT h, if_pos rfl]; rfl, g115, (Kq.rf.sti (Or.inl ⟨rfl, rfl⟩)).sti (Or.inr ⟨rfl, rfl⟩), fun z => (by cases z)⟩
  have hsl := sua_le (B := B) (a := a2) hB v1
  have hnl := nx_le (B := B) (a := a2) v1
  have hC2 : ∀ n m, 120 < n → TC B K m → m.1 1 2 = nI a → tp_readTrump n 36 m = if dI (suo (bx B K a2)) < 0 then some (0, rm_i (rm_i (rm_i m 36 4 (-1)) 1 2 (nI (nx B K a2))) 36 4 (dI (suo (bx B K a2)))) else some (1, rm_i (rm_i (rm_i (rm_i m 36 4 (-1)) 1 2 (nI (nx B K a2))) 36 4 (dI (suo (bx B K a2)))) 1 2 (nI (nx B K a2 + 1))) := by
    intro n m hn hT h
    rw [hC n m hn hT h, if_neg (by decide), c_suit hB v1 (by omega) (TC_k (TC_k hT (by omega) (by omega)) (by omega) (by omega)) g12, mi_mi]
    simp only [Option.bind_some]
    rw [g36, g12, nI_1]
  have hM2 : ∀ n m, 120 < n → TM B K m → m.1 115 3 = nI a → rg_2 n m = if dI (suo (bx B K a2)) < 0 then some (0, rm_i (rm_i (rm_i m 118 3 (-4)) 115 3 (nI (sua B K a2))) 118 3 (dI (suo (bx B K a2)))) else rg_3 n (rm_i (rm_i (rm_i m 118 3 (-4)) 115 3 (nI (sua B K a2))) 118 3 (dI (suo (bx B K a2)))) := by
    intro n m hn hT h
    rw [hM n m hn hT h, if_neg (by decide), m_suit hB v1 (by omega) (TM_k (TM_k hT (by omega) (by omega)) (by omega) (by omega)) g115, mi_mi]
    simp only [Option.bind_some]
  cases e : suo (bx B K a2) with
  | none =>
    have es : sua B K a2 = nx B K a2 := by unfold sua; rw [e]; rfl
    rw [e] at hC2 hM2
    rw [es] at hM2
    refine ⟨false, nx B K a2, 0, by omega, fun z => (by cases z), fun n m hn hT h => ?_, fun n m hn hT h => ?_⟩
    · exact ⟨_, by rw [hC2 n m hn hT h, if_pos (by decide)]; rfl, by rw [g36, g12], ((Kq.rf.sti (Or.inl ⟨rfl, rfl⟩)).sti (Or.inr ⟨rfl, rfl⟩)).sti (Or.inl ⟨rfl, rfl⟩), fun z => (by cases z)⟩
    · exact ⟨_, by rw [hM2 n m hn hT h, if_pos (by decide)]; rfl, by rw [g118, g115], ((Kq.rf.sti (Or.inl ⟨rfl, rfl⟩)).sti (Or.inr ⟨rfl, rfl⟩)).sti (Or.inl ⟨rfl, rfl⟩), fun z => (by cases z)⟩
  | some s =>
    have hs := suo_lt e
    have es : sua B K a2 = nx B K a2 + 1 := by unfold sua; rw [e]; rfl
    rw [e] at hC2 hM2
    rw [es] at hM2 hsl
    have hd : dI (some s) = nI s := rfl
    have hn0 : ¬ nI s < 0 := by rw [k0, nI_ltI (by omega) (by omega)]; omega
    rw [hd] at hC2 hM2
    refine ⟨true, nx B K a2 + 1, s, hsl, fun _ => by omega, fun n m hn hT h => ?_, fun n m hn hT h => ?_⟩
    · refine ⟨_, by rw [hC2 n m hn hT h, if_neg hn0]; rfl, g12, (((Kq.rf.sti (Or.inl ⟨rfl, rfl⟩)).sti (Or.inr ⟨rfl, rfl⟩)).sti (Or.inl ⟨rfl, rfl⟩)).sti (Or.inr ⟨rfl, rfl⟩), fun _ => ?_⟩
      rw [mi_get, if_neg (by omega), mi_get, if_pos ⟨rfl, rfl⟩]; unfold cT; rw [if_pos hs]
    · refine ⟨_, by rw [hM2 n m hn hT h, if_neg hn0]; rfl, by rw [g118, g115], ((Kq.rf.sti (Or.inl ⟨rfl, rfl⟩)).sti (Or.inr ⟨rfl, rfl⟩)).sti (Or.inl ⟨rfl, rfl⟩), fun _ => ?_⟩
      rw [mi_get, if_pos ⟨rfl, rfl⟩]; unfold zT; rw [if_pos hs]
