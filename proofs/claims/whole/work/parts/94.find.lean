/-! SEARCH: the ways that are alike are found -/
def AMm (p sz : Nat) (A : Nat → Nat → Nat) (m : rn_Mem) : Prop := ∀ a, a < sz → m.1 (p + 1) a = nI (A 1 a) ∧ m.1 (p + 2) a = nI (A 2 a) ∧ m.1 (p + 3) a = nI (A 3 a) ∧ m.1 (p + 4) a = nI (A 4 a) ∧ m.1 (p + 5) a = nI (A 5 a) ∧ m.2 (p + 6) a = lN (A 6 a) ∧ m.1 (p + 7) a = nI (A 7 a)
def Kw (p : Nat) (m m2 : rn_Mem) : Prop := (∀ r i, ¬ ((r = p ∧ i = 2) ∨ (p + 1 ≤ r ∧ r ≤ p + 7)) → m2.1 r i = m.1 r i) ∧ ∀ r, r ≠ p + 6 → m2.2 r = m.2 r
theorem Kw.rf {p : Nat} {m : rn_Mem} : Kw p m m := ⟨fun _ _ _ => rfl, fun _ _ => rfl⟩
theorem Kw.tr {p : Nat} {m m1 m2 : rn_Mem} (h : Kw p m m1) (h2 : Kw p m1 m2) : Kw p m m2 := ⟨fun r i hr => (h2.1 r i hr).trans (h.1 r i hr), fun r hr => (h2.2 r hr).trans (h.2 r hr)⟩
theorem Kw.sti {p : Nat} {m m1 : rn_Mem} {r i : Nat} {x : Int32} (h : Kw p m m1) (hp : (r = p ∧ i = 2) ∨ (p + 1 ≤ r ∧ r ≤ p + 7)) : Kw p m (rm_i m1 r i x) := by
  refine ⟨fun q j hq => ?_, h.2⟩
  rw [mi_get, if_neg, h.1 q j hq]
  rintro ⟨rfl, rfl⟩
  exact hq hp
theorem Kw.stj {p : Nat} {m m1 : rn_Mem} {i : Nat} {x : Int64} (h : Kw p m m1) : Kw p m (rm_j m1 (p + 6) i x) := by
  refine ⟨h.1, fun r hr => ?_⟩
  rw [← h.2 r hr]
  funext j
  rw [mj_get, if_neg (fun z => hr z.1)]
theorem find_l3_sp {p sz : Nat} {A : Nat → Nat → Nat} {m : rn_Mem} {x1 x2 x3 x4 : Nat} (hsz : sz ≤ 24) (h2 : m.1 p 2 = nI sz) (hA : AMm p sz A m) (hb : ∀ a, a < sz → A 1 a < 2 ^ 31 ∧ A 2 a < 2 ^ 31 ∧ A 3 a < 2 ^ 31 ∧ A 4 a < 2 ^ 31) (b1 : x1 < 2 ^ 31) (b2 : x2 < 2 ^ 31) (b3 : x3 < 2 ^ 31) (b4 : x4 < 2 ^ 31) : ∀ (s a nf : Nat), a + s = sz → s < nf → (∃ i, i < sz ∧ A 1 i = x1 ∧ A 2 i = x2 ∧ A 3 i = x3 ∧ A 4 i = x4 ∧ wa_find_l3 p (nI x1) (nI x2) (nI x3) (nI x4) nf (nI a) m = some (.inl (nI i, m))) ∨ wa_find_l3 p (nI x1) (nI x2) (nI x3) (nI x4) nf (nI a) m = some (.inr m) := by
  intro s
  induction s with
  | zero =>
    intro a nf e hnf
    obtain ⟨nf, rfl⟩ : ∃ e, nf = e + 1 := ⟨nf - 1, by omega⟩
    right
    rw [wa_find_l3, h2, if_neg (by rw [nI_ltI (by omega) (by omega)]; omega)]
  | succ s ih =>
    intro a nf e hnf
    obtain ⟨nf, rfl⟩ : ∃ e, nf = e + 1 := ⟨nf - 1, by omega⟩
    have hin : rn_in (nI a) 24 = true := (in_n (by omega)).mpr (by omega)
    obtain ⟨q1, q2, q3, q4, _⟩ := hA a (by omega)
    obtain ⟨c1, c2, c3, c4⟩ := hb a (by omega)
    have hrun : wa_find_l3 p (nI x1) (nI x2) (nI x3) (nI x4) (nf + 1) (nI a) m = if A 1 a = x1 ∧ A 2 a = x2 ∧ A 3 a = x3 ∧ A 4 a = x4 then some (.inl (nI a, m)) else wa_find_l3 p (nI x1) (nI x2) (nI x3) (nI x4) nf (nI (a + 1)) m := by
      rw [wa_find_l3, h2, if_pos (by rw [nI_ltI (by omega) (by omega)]; omega)]
      simp only [if_pos hin, nI_n (show a < 2 ^ 31 by omega), q1, q2, q3, q4, nI_eq c1 b1, nI_eq c2 b2, nI_eq c3 b3, nI_eq c4 b4, Option.bind_some, nI_1]
      by_cases z1 : A 1 a = x1
      · by_cases z2 : A 2 a = x2
        · by_cases z3 : A 3 a = x3
          · by_cases z4 : A 4 a = x4
            · rw [if_pos z1, if_pos z2, if_pos z3, if_pos z4, if_pos ⟨z1, z2, z3, z4⟩]
            · rw [if_pos z1, if_pos z2, if_pos z3, if_neg z4, if_neg (fun y => z4 y.2.2.2)]
          · rw [if_pos z1, if_pos z2, if_neg z3, if_neg (fun y => z3 y.2.2.1)]
        · rw [if_pos z1, if_neg z2, if_neg (fun y => z2 y.2.1)]
      · rw [if_neg z1, if_neg (fun y => z1 y.1)]
    rw [hrun]
    by_cases z : A 1 a = x1 ∧ A 2 a = x2 ∧ A 3 a = x3 ∧ A 4 a = x4
    · left
      exact ⟨a, by omega, z.1, z.2.1, z.2.2.1, z.2.2.2, by rw [if_pos z]⟩
    · rw [if_neg z]
      exact ih (a + 1) nf (by omega) (by omega)
theorem find_sp {p sz nf : Nat} {A : Nat → Nat → Nat} {m : rn_Mem} {x1 x2 x3 x4 : Nat} (hnf : 30 < nf) (hsz : sz < 24) (h2 : m.1 p 2 = nI sz) (hA : AMm p sz A m) (hb : ∀ a, a < sz → A 1 a < 2 ^ 31 ∧ A 2 a < 2 ^ 31 ∧ A 3 a < 2 ^ 31 ∧ A 4 a < 2 ^ 31) (b1 : x1 < 2 ^ 31) (b2 : x2 < 2 ^ 31) (b3 : x3 < 2 ^ 31) (b4 : x4 < 2 ^ 31) : (∃ i, i < sz ∧ A 1 i = x1 ∧ A 2 i = x2 ∧ A 3 i = x3 ∧ A 4 i = x4 ∧ wa_find nf p (nI x1) (nI x2) (nI x3) (nI x4) m = some (nI i, m)) ∨ ∃ m2, wa_find nf p (nI x1) (nI x2) (nI x3) (nI x4) m = some (nI sz, m2) ∧ m2.1 p 2 = nI (sz + 1) ∧ AMm p (sz + 1) (fun f a => if a = sz then (if f = 1 then x1 else if f = 2 then x2 else if f = 3 then x3 else if f = 4 then x4 else if f = 7 then 65535 else 0) else A f a) m2 ∧ Kw p m m2 := by
  rcases find_l3_sp (x1 := x1) (x2 := x2) (x3 := x3) (x4 := x4) (by omega) h2 hA hb b1 b2 b3 b4 sz 0 nf (by omega) (by omega) with ⟨i, i1, i2, i3, i4, i5, i6⟩ | h
  · left
    refine ⟨i, i1, i2, i3, i4, i5, ?_⟩
    unfold wa_find
    rw [show wa_find_l3 p (nI x1) (nI x2) (nI x3) (nI x4) nf 0 m = _ from i6]
    rfl
  · right
    have hin : rn_in (nI sz) 24 = true := (in_n (by omega)).mpr hsz
    generalize hm2 : rm_i (rm_i (rm_j (rm_i (rm_i (rm_i (rm_i (rm_i m (p + 1) sz (nI x1)) (p + 2) sz (nI x2)) (p + 3) sz (nI x3)) (p + 4) sz (nI x4)) (p + 5) sz 0) (p + 6) sz 0) (p + 7) sz 65535) p 2 (nI (sz + 1)) = m2
    refine ⟨m2, ?_, ?_, fun a ha => ?_, ?_⟩
    · have e1 : ∀ (r i : Nat) (x : Int32) (mm : rn_Mem), r ≠ p → mm.1 p 2 = nI sz → (rm_i mm r i x).1 p 2 = nI sz := fun r i x mm hr h => by rw [mi_get, if_neg (fun z => hr z.1.symm)]; exact h
      have f1 := e1 (p + 1) sz (nI x1) m (by omega) h2
      have f2 := e1 (p + 2) sz (nI x2) _ (by omega) f1
      have f3 := e1 (p + 3) sz (nI x3) _ (by omega) f2
      have f4 := e1 (p + 4) sz (nI x4) _ (by omega) f3
      have f5 := e1 (p + 5) sz 0 _ (by omega) f4
      have f7 := e1 (p + 7) sz 65535 (rm_j (rm_i (rm_i (rm_i (rm_i (rm_i m (p + 1) sz (nI x1)) (p + 2) sz (nI x2)) (p + 3) sz (nI x3)) (p + 4) sz (nI x4)) (p + 5) sz 0) (p + 6) sz 0) (by omega) f5
      have f8 : m2.1 p 2 - 1 = nI sz := by
        rw [← hm2, mi_get, if_pos ⟨rfl, rfl⟩]
        exact pk_sub (a := sz + 1) (b := 1) (by omega)
      unfold wa_find
      rw [show wa_find_l3 p (nI x1) (nI x2) (nI x3) (nI x4) nf 0 m = _ from h]
      simp only [Option.bind_some]
      rw [h2, if_pos (by rw [k24, nI_ltI (by omega) (by omega)]; exact hsz), if_pos hin, nI_n (by omega)]
      try simp only [Option.bind_some]
      rw [f1, if_pos hin, nI_n (by omega)]
      try simp only [Option.bind_some]
      rw [f2, if_pos hin, nI_n (by omega)]
      try simp only [Option.bind_some]
      rw [f3, if_pos hin, nI_n (by omega)]
      try simp only [Option.bind_some]
      rw [f4, if_pos hin, nI_n (by omega)]
      try simp only [Option.bind_some]
      rw [f5, if_pos hin, nI_n (by omega)]
      try simp only [Option.bind_some]
      rw [mj_1, f5, if_pos hin, nI_n (by omega)]
      try simp only [Option.bind_some]
      rw [f7, nI_1, hm2, f8]
    · rw [← hm2, mi_get, if_pos ⟨rfl, rfl⟩]
    · rw [← hm2]
      by_cases z : a = sz
      · subst z
        refine ⟨?_, ?_, ?_, ?_, ?_, ?_, ?_⟩
        all_goals simp (disch := omega) only [mi_get, mi_2, mj_1, mj_get, if_pos, if_neg, true_and, and_true, if_true, and_self]
        all_goals rfl
      · obtain ⟨q1, q2, q3, q4, q5, q6, q7⟩ := hA a (by omega)
        refine ⟨?_, ?_, ?_, ?_, ?_, ?_, ?_⟩
        · simp (disch := omega) only [mi_get, mi_2, mj_1, mj_get, if_pos, if_neg]; exact q1
        · simp (disch := omega) only [mi_get, mi_2, mj_1, mj_get, if_pos, if_neg]; exact q2
        · simp (disch := omega) only [mi_get, mi_2, mj_1, mj_get, if_pos, if_neg]; exact q3
        · simp (disch := omega) only [mi_get, mi_2, mj_1, mj_get, if_pos, if_neg]; exact q4
        · simp (disch := omega) only [mi_get, mi_2, mj_1, mj_get, if_pos, if_neg]; exact q5
        · simp (disch := omega) only [mi_get, mi_2, mj_1, mj_get, if_pos, if_neg]; exact q6
        · simp (disch := omega) only [mi_get, mi_2, mj_1, mj_get, if_pos, if_neg]; exact q7
    · rw [← hm2]
      exact (((((((Kw.rf.sti (by omega)).sti (by omega)).sti (by omega)).sti (by omega)).sti (by omega)).stj).sti (by omega)).sti (by omega)
/-- an order is noted at way i -/
theorem note_upd {p i nf : Nat} {sz : Nat} {A : Nat → Nat → Nat} {m : rn_Mem} {who pl : Nat} (hsz : sz ≤ 24) (hi : i < sz) (hA : AMm p sz A m) (h5 : A 5 i < 1000) (h7 : A 7 i < 2 ^ 31) (hpl : pl < 2 ^ 31) : ∃ m2, (if rn_in (nI i) 24 = true then if rn_in (nI i) 24 = true then (some (rm_i m (p + 5) (nI i).toNatClampNeg ((m.1 (p + 5) (nI i).toNatClampNeg) + 1))).bind fun (m71 : rn_Mem) => if rn_in (nI i) 24 = true then if rn_in (nI i) 24 = true then (some (rm_j m71 (p + 6) (nI i).toNatClampNeg ((m71.2 (p + 6) (nI i).toNatClampNeg) ||| lN who))).bind fun (m74 : rn_Mem) => if rn_in (nI i) 24 = true then (ja_min nf (m74.1 (p + 7) (nI i).toNatClampNeg) (nI pl) m74).bind fun (r78, m77) => if rn_in (nI i) 24 = true then (some (rm_i m77 (p + 7) (nI i).toNatClampNeg r78)).bind fun (m80 : rn_Mem) => some m80 else none else none else none else none else none else none) = some m2 ∧ m2.1 p 2 = m.1 p 2 ∧ AMm p sz (fun f a => if a = i then (if f = 5 then A 5 i + 1 else if f = 6 then A 6 i ||| who else if f = 7 then (if pl < A 7 i then pl else A 7 i) else A f a) else A f a) m2 ∧ Kw p m m2 := by
  have hin : rn_in (nI i) 24 = true := (in_n (by omega)).mpr (by omega)
  obtain ⟨q1, q2, q3, q4, q5, q6, q7⟩ := hA i hi
  simp only [if_pos hin, nI_n (show i < 2 ^ 31 by omega), Option.bind_some]
  have e5 : (rm_i m (p + 5) i (m.1 (p + 5) i + 1)).2 (p + 6) i = lN (A 6 i) := q6
  have e7 : (rm_j (rm_i m (p + 5) i (m.1 (p + 5) i + 1)) (p + 6) i ((rm_i m (p + 5) i (m.1 (p + 5) i + 1)).2 (p + 6) i ||| lN who)).1 (p + 7) i = nI (A 7 i) := by
    rw [mj_1, mi_get, if_neg (by omega)]; exact q7
  have hmin : ∀ mm : rn_Mem, ja_min nf (nI (A 7 i)) (nI pl) mm = some (nI (if pl < A 7 i then pl else A 7 i), mm) := by
    intro mm
    unfold ja_min
    by_cases z : pl < A 7 i
    · rw [if_pos (by rw [nI_ltI (by omega) (by omega)]; exact z), if_pos z]
    · rw [if_neg (by rw [nI_ltI (by omega) (by omega)]; exact z), if_neg z]
  rw [e7, hmin]
  simp only [Option.bind_some]
  rw [e5, q5, nI_1, fb_orL]
  refine ⟨_, rfl, ?_, fun a ha => ?_, ?_⟩
  · rw [mi_get, if_neg (by omega), mj_1, mi_get, if_neg (by omega)]
  · obtain ⟨r1, r2, r3, r4, r5, r6, r7⟩ := hA a ha
    by_cases z : a = i
    · subst z
      refine ⟨?_, ?_, ?_, ?_, ?_, ?_, ?_⟩
      · simp (disch := omega) only [mi_get, mi_2, mj_1, mj_get, if_pos, if_neg, if_true]; exact r1
      · simp (disch := omega) only [mi_get, mi_2, mj_1, mj_get, if_pos, if_neg, if_true]; exact r2
      · simp (disch := omega) only [mi_get, mi_2, mj_1, mj_get, if_pos, if_neg, if_true]; exact r3
      · simp (disch := omega) only [mi_get, mi_2, mj_1, mj_get, if_pos, if_neg, if_true]; exact r4
      · simp (disch := omega) only [mi_get, mi_2, mj_1, mj_get, if_pos, if_neg, if_true, and_self]
      · simp (disch := omega) only [mi_get, mi_2, mj_1, mj_get, if_pos, if_neg, if_true, and_self]
      · simp (disch := omega) only [mi_get, mi_2, mj_1, mj_get, if_pos, if_neg, if_true, and_self]
    · refine ⟨?_, ?_, ?_, ?_, ?_, ?_, ?_⟩
      · simp (disch := omega) only [mi_get, mi_2, mj_1, mj_get, if_pos, if_neg, if_true]; exact r1
      · simp (disch := omega) only [mi_get, mi_2, mj_1, mj_get, if_pos, if_neg, if_true]; exact r2
      · simp (disch := omega) only [mi_get, mi_2, mj_1, mj_get, if_pos, if_neg, if_true]; exact r3
      · simp (disch := omega) only [mi_get, mi_2, mj_1, mj_get, if_pos, if_neg, if_true]; exact r4
      · simp (disch := omega) only [mi_get, mi_2, mj_1, mj_get, if_pos, if_neg, if_true]; exact r5
      · simp (disch := omega) only [mi_get, mi_2, mj_1, mj_get, if_pos, if_neg, if_true]; exact r6
      · simp (disch := omega) only [mi_get, mi_2, mj_1, mj_get, if_pos, if_neg, if_true]; exact r7
  · exact ((Kw.rf.sti (by omega)).stj).sti (by omega)
