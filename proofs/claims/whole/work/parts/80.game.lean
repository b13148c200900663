/-! GAME: laws, who begins, the end; both sides -/
theorem G_laws {B : Nat → Nat} {K a : Nat} (hB : TB B K) (ha : a ≤ K) : ∃ (ok : Bool) (a' fo ls kp : Nat), a' ≤ K ∧ (ok = true → fo ≤ 2 ∧ ls ≤ 1 ∧ kp ≤ 1) ∧ (∀ n m, 120 < n → TC B K m → m.1 1 2 = nI a → ∃ m2, tp_readLaws n 36 m = some (o01 ok, m2) ∧ m2.1 1 2 = nI a' ∧ Kq (fun p i => (p = 36 ∧ (i = 5 ∨ i = 6 ∨ i = 7)) ∨ (p = 1 ∧ i = 2)) m m2 ∧ (ok = true → m2.1 36 5 = nI fo ∧ m2.1 36 6 = nI ls ∧ m2.1 36 7 = nI kp)) ∧ (∀ n m, 120 < n → TM B K m → m.1 115 3 = nI a → ∃ m2, rg_3 n m = (if ok = true then rg_4 n m2 else some (0, m2)) ∧ m2.1 115 3 = nI a' ∧ Kq (fun p i => (p = 118 ∧ (i = 4 ∨ i = 5 ∨ i = 6)) ∨ (p = 115 ∧ i = 3)) m m2 ∧ (ok = true → m2.1 118 4 = nI fo ∧ m2.1 118 5 = nI ls ∧ m2.1 118 6 = nI kp)) := by
  obtain ⟨d1, a1, x1, x2, ⟨r1, y1, x3, x4, x5, x6⟩, x7⟩ := S_rd hB ha 102 0 2 0 2 (by decide) (by decide) (by decide) (by decide)
  obtain ⟨d2, a2, z1, z2, ⟨r2, y2, z3, z4, z5, z6⟩, z7⟩ := S_rd hB x1 108 0 1 0 1 (by decide) (by decide) (by decide) (by decide)
  obtain ⟨d3, a3, w1, w2, ⟨r3, y3, w3, w4, w5, w6⟩, w7⟩ := S_rd hB z1 107 0 1 0 1 (by decide) (by decide) (by decide) (by decide)
  have c1 : ∀ n m, 120 < n → TC B K m → m.1 1 2 = nI a → ((tp_take n 102 m).bind fun (p : Int32 × rn_Mem) => (if p.1 = 0 then some ((-1), p.2) else (tp_digit n 0 2 p.2).bind fun (q : Int32 × rn_Mem) => some (q.1, q.2))) = some (dI d1, rm_i m 1 2 (nI a1)) := by
    intro n m hn hT h
    rw [x4 n m (by omega) hT h]
    simp only [Option.bind_some]
    rcases x3 with rfl | rfl
    · obtain ⟨rfl, rfl⟩ := x5 rfl
      rw [if_pos rfl]; rfl
    · rw [if_neg (by decide), x6 rfl n _ (by omega) (TC_k hT (by omega) (by omega)) g12, mi_mi]; rfl
  have c2 : ∀ n m, 120 < n → TC B K m → m.1 1 2 = nI a1 → ((tp_take n 108 m).bind fun (p : Int32 × rn_Mem) => (if p.1 = 0 then some ((-1), p.2) else (tp_digit n 0 1 p.2).bind fun (q : Int32 × rn_Mem) => some (q.1, q.2))) = some (dI d2, rm_i m 1 2 (nI a2)) := by
    intro n m hn hT h
    rw [z4 n m (by omega) hT h]
    simp only [Option.bind_some]
    rcases z3 with rfl | rfl
    · obtain ⟨rfl, rfl⟩ := z5 rfl
      rw [if_pos rfl]; rfl
    · rw [if_neg (by decide), z6 rfl n _ (by omega) (TC_k hT (by omega) (by omega)) g12, mi_mi]; rfl
  have c3 : ∀ n m, 120 < n → TC B K m → m.1 1 2 = nI a2 → ((tp_take n 107 m).bind fun (p : Int32 × rn_Mem) => (if p.1 = 0 then some ((-1), p.2) else (tp_digit n 0 1 p.2).bind fun (q : Int32 × rn_Mem) => some (q.1, q.2))) = some (dI d3, rm_i m 1 2 (nI a3)) := by
    intro n m hn hT h
    rw [w4 n m (by omega) hT h]
    simp only [Option.bind_some]
    rcases w3 with rfl | rfl
    · obtain ⟨rfl, rfl⟩ := w5 rfl
      rw [if_pos rfl]; rfl
    · rw [if_neg (by decide), w6 rfl n _ (by omega) (TC_k hT (by omega) (by omega)) g12, mi_mi]; rfl
  have bb : ∀ {α β γ : Type} (o : Option α) (f : α → Option β) (g : β → Option γ), (o.bind f).bind g = o.bind fun x => (f x).bind g := fun o f g => by cases o <;> rfl
  have hC : ∀ n m, 120 < n → TC B K m → m.1 1 2 = nI a → tp_readLaws n 36 m = if dI d1 < 0 then some (0, rm_i (rm_i m 1 2 (nI a1)) 36 5 (dI d1)) else if dI d2 < 0 then some (0, rm_i (rm_i (rm_i (rm_i m 1 2 (nI a1)) 36 5 (dI d1)) 1 2 (nI a2)) 36 6 (dI d2)) else if dI d3 < 0 then some (0, rm_i (rm_i (rm_i (rm_i (rm_i (rm_i m 1 2 (nI a1)) 36 5 (dI d1)) 1 2 (nI a2)) 36 6 (dI d2)) 1 2 (nI a3)) 36 7 (dI d3)) else some (1, rm_i (rm_i (rm_i (rm_i (rm_i (rm_i m 1 2 (nI a1)) 36 5 (dI d1)) 1 2 (nI a2)) 36 6 (dI d2)) 1 2 (nI a3)) 36 7 (dI d3)) := by
    intro n m hn hT h
    have T1 : TC B K (rm_i (rm_i m 1 2 (nI a1)) 36 5 (dI d1)) := TC_k (TC_k hT (by omega) (by omega)) (by omega) (by omega)
    have T2 : TC B K (rm_i (rm_i (rm_i (rm_i m 1 2 (nI a1)) 36 5 (dI d1)) 1 2 (nI a2)) 36 6 (dI d2)) := TC_k (TC_k T1 (by omega) (by omega)) (by omega) (by omega)
    have e1 := c1 n m hn hT h
    have e2 := c2 n _ hn T1 (by rw [g36, g12])
    have e3 := c3 n _ hn T2 (by rw [g36, g12])
    unfold tp_readLaws
    rw [← bb (tp_take n 102 m)]
    refine (congrArg (fun o => Option.bind o _) e1).trans ?_
    simp only [Option.bind_some, mi_get, true_and, and_self, if_true]
    by_cases q1 : dI d1 < 0
    · rw [if_pos q1, if_pos q1]
    rw [if_neg q1, if_neg q1, ← bb (tp_take n 108 _)]
    refine (congrArg (fun o => Option.bind o _) e2).trans ?_
    simp only [Option.bind_some, mi_get, true_and, and_self, if_true]
    by_cases q2 : dI d2 < 0
    · rw [if_pos q2, if_pos q2]
    rw [if_neg q2, if_neg q2, ← bb (tp_take n 107 _)]
    refine (congrArg (fun o => Option.bind o _) e3).trans ?_
    simp only [Option.bind_some, mi_get, true_and, and_self, if_true]
  have hM : ∀ n m, 120 < n → TM B K m → m.1 115 3 = nI a → rg_3 n m = if dI d1 < 0 then some (0, rm_i (rm_i m 115 3 (nI a1)) 118 4 (dI d1)) else if dI d2 < 0 then some (0, rm_i (rm_i (rm_i (rm_i m 115 3 (nI a1)) 118 4 (dI d1)) 115 3 (nI a2)) 118 5 (dI d2)) else if dI d3 < 0 then some (0, rm_i (rm_i (rm_i (rm_i (rm_i (rm_i m 115 3 (nI a1)) 118 4 (dI d1)) 115 3 (nI a2)) 118 5 (dI d2)) 115 3 (nI a3)) 118 6 (dI d3)) else rg_4 n (rm_i (rm_i (rm_i (rm_i (rm_i (rm_i m 115 3 (nI a1)) 118 4 (dI d1)) 115 3 (nI a2)) 118 5 (dI d2)) 115 3 (nI a3)) 118 6 (dI d3)) := by
    intro n m hn hT h
    have T1 : TM B K (rm_i (rm_i m 115 3 (nI a1)) 118 4 (dI d1)) := TM_k (TM_k hT (by omega) (by omega)) (by omega) (by omega)
    have T2 : TM B K (rm_i (rm_i (rm_i (rm_i m 115 3 (nI a1)) 118 4 (dI d1)) 115 3 (nI a2)) 118 5 (dI d2)) := TM_k (TM_k T1 (by omega) (by omega)) (by omega) (by omega)
    have e1 := x7 n m (by omega) hT h
    have e2 := z7 n _ (by omega) T1 (by rw [g118, g115])
    have e3 := w7 n _ (by omega) T2 (by rw [g118, g115])
    unfold rg_3
    rw [e1]
    simp only [Option.bind_some, mi_get, true_and, and_self, if_true]
    rw [e2]
    simp only [Option.bind_some, mi_get, true_and, and_self, if_true]
    rw [e3]
    simp only [Option.bind_some, mi_get, true_and, and_self, if_true]
    rfl
  have kc : ∀ (m : rn_Mem), Kq (fun p i => (p = 36 ∧ (i = 5 ∨ i = 6 ∨ i = 7)) ∨ (p = 1 ∧ i = 2)) m (rm_i (rm_i m 1 2 (nI a1)) 36 5 (dI d1)) := fun m => (Kq.rf.sti (Or.inr ⟨rfl, rfl⟩)).sti (Or.inl ⟨rfl, Or.inl rfl⟩)
  have km : ∀ (m : rn_Mem), Kq (fun p i => (p = 118 ∧ (i = 4 ∨ i = 5 ∨ i = 6)) ∨ (p = 115 ∧ i = 3)) m (rm_i (rm_i m 115 3 (nI a1)) 118 4 (dI d1)) := fun m => (Kq.rf.sti (Or.inr ⟨rfl, rfl⟩)).sti (Or.inl ⟨rfl, Or.inl rfl⟩)
  by_cases q1 : dI d1 < 0
  · refine ⟨false, a1, 0, 0, 0, x1, fun z => (by cases z), fun n m hn hT h => ?_, fun n m hn hT h => ?_⟩
    · exact ⟨_, by rw [hC n m hn hT h, if_pos q1]; rfl, by rw [g36, g12], kc m, fun z => (by cases z)⟩
    · exact ⟨_, by rw [hM n m hn hT h, if_pos q1]; rfl, by rw [g118, g115], km m, fun z => (by cases z)⟩
  by_cases q2 : dI d2 < 0
  · refine ⟨false, a2, 0, 0, 0, z1, fun z => (by cases z), fun n m hn hT h => ?_, fun n m hn hT h => ?_⟩
    · exact ⟨_, by rw [hC n m hn hT h, if_neg q1, if_pos q2]; rfl, by rw [g36, g12], ((kc m).sti (Or.inr ⟨rfl, rfl⟩)).sti (Or.inl ⟨rfl, Or.inr (Or.inl rfl)⟩), fun z => (by cases z)⟩
    · exact ⟨_, by rw [hM n m hn hT h, if_neg q1, if_pos q2]; rfl, by rw [g118, g115], ((km m).sti (Or.inr ⟨rfl, rfl⟩)).sti (Or.inl ⟨rfl, Or.inr (Or.inl rfl)⟩), fun z => (by cases z)⟩
  by_cases q3 : dI d3 < 0
  · refine ⟨false, a3, 0, 0, 0, w1, fun z => (by cases z), fun n m hn hT h => ?_, fun n m hn hT h => ?_⟩
    · exact ⟨_, by rw [hC n m hn hT h, if_neg q1, if_neg q2, if_pos q3]; rfl, by rw [g36, g12], ((((kc m).sti (Or.inr ⟨rfl, rfl⟩)).sti (Or.inl ⟨rfl, Or.inr (Or.inl rfl)⟩)).sti (Or.inr ⟨rfl, rfl⟩)).sti (Or.inl ⟨rfl, Or.inr (Or.inr rfl)⟩), fun z => (by cases z)⟩
    · exact ⟨_, by rw [hM n m hn hT h, if_neg q1, if_neg q2, if_pos q3]; rfl, by rw [g118, g115], ((((km m).sti (Or.inr ⟨rfl, rfl⟩)).sti (Or.inl ⟨rfl, Or.inr (Or.inl rfl)⟩)).sti (Or.inr ⟨rfl, rfl⟩)).sti (Or.inl ⟨rfl, Or.inr (Or.inr rfl)⟩), fun z => (by cases z)⟩
  obtain ⟨fo, rfl⟩ := dI_s q1
  obtain ⟨ls, rfl⟩ := dI_s q2
  obtain ⟨kp, rfl⟩ := dI_s q3
  refine ⟨true, a3, fo, ls, kp, w1, fun _ => ⟨(x2 fo rfl).2, (z2 ls rfl).2, (w2 kp rfl).2⟩, fun n m hn hT h => ?_, fun n m hn hT h => ?_⟩
  · refine ⟨_, by rw [hC n m hn hT h, if_neg q1, if_neg q2, if_neg q3]; rfl, by rw [g36, g12], ((((kc m).sti (Or.inr ⟨rfl, rfl⟩)).sti (Or.inl ⟨rfl, Or.inr (Or.inl rfl)⟩)).sti (Or.inr ⟨rfl, rfl⟩)).sti (Or.inl ⟨rfl, Or.inr (Or.inr rfl)⟩), fun _ => ⟨?_, ?_, ?_⟩⟩
    all_goals
      simp (disch := omega) only [mi_get, if_pos, if_neg, true_and, and_true, if_true, and_self]
      rfl
  · refine ⟨_, by rw [hM n m hn hT h, if_neg q1, if_neg q2, if_neg q3]; rfl, by rw [g118, g115], ((((km m).sti (Or.inr ⟨rfl, rfl⟩)).sti (Or.inl ⟨rfl, Or.inr (Or.inl rfl)⟩)).sti (Or.inr ⟨rfl, rfl⟩)).sti (Or.inl ⟨rfl, Or.inr (Or.inr rfl)⟩), fun _ => ⟨?_, ?_, ?_⟩⟩
    all_goals
      simp (disch := omega) only [mi_get, if_pos, if_neg, true_and, and_true, if_true, and_self]
      rfl
theorem G_beg {B : Nat → Nat} {K a c : Nat} (hB : TB B K) (ha : a ≤ K) (hc2 : 2 ≤ c) (hc4 : c ≤ 4) : ∃ (ok : Bool) (a' bg : Nat), a' ≤ K ∧ (ok = true → bg < c ∨ bg = 4) ∧ (∀ n m, 120 < n → TC B K m → m.1 1 2 = nI a → m.1 36 1 = nI c → ∃ m2, tp_readBegins n 36 m = some (o01 ok, m2) ∧ m2.1 1 2 = nI a' ∧ Kq (fun p i => (p = 36 ∧ i = 8) ∨ (p = 1 ∧ i = 2)) m m2 ∧ (ok = true → m2.1 36 8 = cT bg)) ∧ (∀ n m, 120 < n → TM B K m → m.1 115 3 = nI a → m.1 118 0 = nI c → ∃ m2, rg_4 n m = (if ok = true then rg_5 n m2 else some (0, m2)) ∧ m2.1 115 3 = nI a' ∧ Kq (fun p i => (p = 118 ∧ i = 7) ∨ (p = 115 ∧ i = 3)) m m2 ∧ (ok = true → m2.1 118 7 = zT bg)) := by
  obtain ⟨r1, a1, w1, w2, w3, w4⟩ := S_take hB ha 98 (by decide)
  rcases w2 with rfl | rfl
  · refine ⟨false, a1, 0, w1, fun z => (by cases z), fun n m hn hT h hc => ?_, fun n m hn hT h hc => ?_⟩
    · refine ⟨rm_i (rm_i m 36 8 (-1)) 1 2 (nI a1), ?_, g12, (Kq.rf.sti (Or.inl ⟨rfl, rfl⟩)).sti (Or.inr ⟨rfl, rfl⟩), fun z => (by cases z)⟩
      unfold tp_readBegins
      simp only [Option.bind_some]
      rw [w3 n _ (by omega) (TC_k hT (by omega) (by omega)) (by rw [g36]; exact h)]
      simp only [Option.bind_some]
      rw [if_pos trivial]
      rfl
    · refine ⟨rm_i m 115 3 (nI a1), ?_, g115, Kq.rf.sti (Or.inr ⟨rfl, rfl⟩), fun z => (by cases z)⟩
      unfold rg_4
      rw [w4 n _ (by omega) hT h]
      simp only [Option.bind_some]
      rw [if_pos trivial]
      rfl
  obtain ⟨r2, a2, v1, v2, v3, v4⟩ := S_take hB w1 63 (by decide)
  have hC : ∀ n m, 120 < n → TC B K m → m.1 1 2 = nI a → tp_readBegins n 36 m = if r2 = (0 : Int32) then (tp_digit n 0 (m.1 36 1 - 1) (rm_i (rm_i m 36 8 (-1)) 1 2 (nI a2))).bind fun (r11, m10) => if r11 < 0 then some ((0 : Int32), rm_i m10 36 8 r11) else some (1, rm_i m10 36 8 r11) else some (1, rm_i (rm_i m 36 8 (-1)) 1 2 (nI a2)) := by
    intro n m hn hT h
    unfold tp_readBegins
    simp only [Option.bind_some]
    rw [w3 n _ (by omega) (TC_k hT (by omega) (by omega)) (by rw [g36]; exact h)]
    simp only [Option.bind_some]
    rw [if_neg (by decide), v3 n _ (by omega) (TC_k (TC_k hT (by omega) (by omega)) (by omega) (by omega)) g12, mi_mi]
    simp only [Option.bind_some, mi_get, true_and, and_self, if_true]
    rfl
  have hM : ∀ n m, 120 < n → TM B K m → m.1 115 3 = nI a → rg_4 n m = if r2 = 0 then (mo_nextByte n (rm_i (rm_i (rm_i m 115 3 (nI a1)) 118 7 (-4)) 115 3 (nI a2))).bind fun (r96, m95) => (mo_in n ((r96 - 48).toInt64) 0 (((m95.1 118 0) - 1).toInt64) m95).bind fun (r101, m100) => if r101 = 0 then some (0, m100) else rg_5 n (rm_i (rm_i m100 115 3 ((m100.1 115 3) + 1)) 118 7 (r96 - 48)) else rg_5 n (rm_i (rm_i (rm_i m 115 3 (nI a1)) 118 7 (-4)) 115 3 (nI a2)) := by
    intro n m hn hT h
    unfold rg_4
    rw [w4 n _ (by omega) hT h]
    simp only [Option.bind_some]
    rw [if_neg (by decide), v4 n _ (by omega) (TM_k (TM_k hT (by omega) (by omega)) (by omega) (by omega)) (by rw [g118, g115])]
    simp only [Option.bind_some]
    rfl
  rcases v2 with rfl | rfl
  case inr =>
    refine ⟨true, a2, 4, v1, fun _ => Or.inr rfl, fun n m hn hT h hc => ?_, fun n m hn hT h hc => ?_⟩
    · refine ⟨_, by rw [hC n m hn hT h, if_neg (by decide)]; rfl, g12, (Kq.rf.sti (Or.inl ⟨rfl, rfl⟩)).sti (Or.inr ⟨rfl, rfl⟩), fun _ => ?_⟩
      rw [mi_get, if_neg (by omega), mi_get, if_pos ⟨rfl, rfl⟩]; rfl
    · refine ⟨_, by rw [hM n m hn hT h, if_neg (by decide)]; rfl, g115, ((Kq.rf.sti (Or.inr ⟨rfl, rfl⟩)).sti (Or.inl ⟨rfl, rfl⟩)).sti (Or.inr ⟨rfl, rfl⟩), fun _ => ?_⟩
      rw [mi_get, if_neg (by omega), mi_get, if_pos ⟨rfl, rfl⟩]; rfl
  have hc1 : nI c - 1 = nI (c - 1) := pk_sub (b := 1) (by omega)
  obtain ⟨d, a3, y1, y2, y3, y4⟩ := S_dig hB v1 0 (nI (c - 1)) 0 (c - 1) (by decide) (nI_int (by omega)) (by omega)
  have hnl := nx_le (B := B) (a := a2) v1
  have hC2 : ∀ n m, 120 < n → TC B K m → m.1 1 2 = nI a → m.1 36 1 = nI c → tp_readBegins n 36 m = if dI d < 0 then some (0, rm_i (rm_i (rm_i m 36 8 (-1)) 1 2 (nI a3)) 36 8 (dI d)) else some (1, rm_i (rm_i (rm_i m 36 8 (-1)) 1 2 (nI a3)) 36 8 (dI d)) := by
    intro n m hn hT h hc
    rw [hC n m hn hT h, if_pos rfl, hc, hc1, y3 n _ (by omega) (TC_k (TC_k hT (by omega) (by omega)) (by omega) (by omega)) g12, mi_mi]
    simp only [Option.bind_some]
  have hM2 : ∀ n m, 120 < n → TM B K m → m.1 115 3 = nI a → m.1 118 0 = nI c → rg_4 n m = if (0 : Int) ≤ (bx B K a2 - 48).toInt ∧ (bx B K a2 - 48).toInt ≤ (c - 1 : Nat) then rg_5 n (rm_i (rm_i (rm_i (rm_i m 115 3 (nI a1)) 118 7 (-4)) 115 3 (nI (nx B K a2 + 1))) 118 7 (bx B K a2 - 48)) else some (0, rm_i (rm_i (rm_i m 115 3 (nI a1)) 118 7 (-4)) 115 3 (nI (nx B K a2))) := by
    intro n m hn hT h hc
    rw [hM n m hn hT h, if_pos rfl, m_next hB v1 (by omega) (TM_k (TM_k (TM_k hT (by omega) (by omega)) (by omega) (by omega)) (by omega) (by omega)) g115, mi_mi]
    simp only [Option.bind_some]
    have e0 : (rm_i (rm_i (rm_i m 115 3 (nI a1)) 118 7 (-4)) 115 3 (nI (nx B K a2))).1 118 0 = nI c := by
      rw [mi_get, if_neg (by omega), mi_get, if_neg (by omega), mi_get, if_neg (by omega)]; exact hc
    rw [e0, hc1, mo_in_i n _ 0 _ 0 (c - 1 : Nat) _ (by decide) (by rw [Int32.toInt_toInt64, nI_int (by omega)])]
    simp only [Option.bind_some]
    by_cases q : (0 : Int) ≤ (bx B K a2 - 48).toInt ∧ (bx B K a2 - 48).toInt ≤ (c - 1 : Nat)
    · rw [if_pos q, if_pos q, if_neg (show ¬ (1 : Int32) = 0 by decide), g115, nI_1, mi_mi]
    · rw [if_neg q, if_neg q, if_pos rfl]
  rcases y4 with ⟨rfl, rfl, e3⟩ | ⟨v, rfl, rfl, e3, e4⟩
  · refine ⟨false, nx B K a2, 0, y1, fun z => (by cases z), fun n m hn hT h hc => ?_, fun n m hn hT h hc => ?_⟩
    · exact ⟨_, by rw [hC2 n m hn hT h hc, if_pos (by decide)]; rfl, by rw [g36, g12], ((Kq.rf.sti (Or.inl ⟨rfl, rfl⟩)).sti (Or.inr ⟨rfl, rfl⟩)).sti (Or.inl ⟨rfl, rfl⟩), fun z => (by cases z)⟩
    · exact ⟨_, by rw [hM2 n m hn hT h hc, if_neg (show ¬ ((0 : Int) ≤ (bx B K a2 - 48).toInt ∧ (bx B K a2 - 48).toInt ≤ (c - 1 : Nat)) from e3)]; rfl, g115, ((Kq.rf.sti (Or.inr ⟨rfl, rfl⟩)).sti (Or.inl ⟨rfl, rfl⟩)).sti (Or.inr ⟨rfl, rfl⟩), fun z => (by cases z)⟩
  · have hv := y2 v rfl
    have hn0 : ¬ dI (some v) < 0 := by rw [show dI (some v) = nI v from rfl, k0, nI_ltI (by omega) (by omega)]; omega
    refine ⟨true, nx B K a2 + 1, v, y1, fun _ => Or.inl (by omega), fun n m hn hT h hc => ?_, fun n m hn hT h hc => ?_⟩
    · refine ⟨_, by rw [hC2 n m hn hT h hc, if_neg hn0]; rfl, by rw [g36, g12], ((Kq.rf.sti (Or.inl ⟨rfl, rfl⟩)).sti (Or.inr ⟨rfl, rfl⟩)).sti (Or.inl ⟨rfl, rfl⟩), fun _ => ?_⟩
      rw [mi_get, if_pos ⟨rfl, rfl⟩]; unfold cT; rw [if_pos (by omega)]; rfl
    · refine ⟨_, by rw [hM2 n m hn hT h hc, if_pos (show (0 : Int) ≤ (bx B K a2 - 48).toInt ∧ (bx B K a2 - 48).toInt ≤ (c - 1 : Nat) from e4)]; rfl, by rw [g118, g115], (((Kq.rf.sti (Or.inr ⟨rfl, rfl⟩)).sti (Or.inl ⟨rfl, rfl⟩)).sti (Or.inr ⟨rfl, rfl⟩)).sti (Or.inl ⟨rfl, rfl⟩), fun _ => ?_⟩
      rw [mi_get, if_pos ⟨rfl, rfl⟩, e3]; unfold zT; rw [if_pos (by omega)]
