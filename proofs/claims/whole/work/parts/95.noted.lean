/-! SEARCH: an order noted -/
theorem kLd_lt {S : Nat → Nat} {c : Nat} {f : Nat → Nat} (hn : 0 < S 1) : kLd S c f < S 1 := Nat.mod_lt _ hn
/-- ways with one order more, at way i -/
theorem WRl_step {S : Nat → Nat} {ask c p : Nat} {F : Nat → Nat → Nat} {Q sz i sz1 : Nat} {cl : Nat → Nat} {A A1 : Nat → Nat → Nat} {m2 : rn_Mem} (h2 : m2.1 p 2 = nI sz1) (hle : sz ≤ Q) (hi : i < sz1) (hsz1 : (sz1 = sz ∧ i < sz) ∨ (sz1 = sz + 1 ∧ i = sz))
    (hR3 : ∀ q, q < Q → cl q < sz ∧ A 1 (cl q) = kLd S c (F q) ∧ A 2 (cl q) = kBa S (kLd S c (F q)) (F q) (S 1) ∧ A 3 (cl q) = kHo S (kLd S c (F q)) (F q) (S 1) &&& ask ∧ A 4 (cl q) = kBr S (kLd S c (F q)) (F q) (S 1))
    (hR4 : ∀ a, a < sz → (∃ q, q < Q ∧ cl q = a ∧ A 7 a = pk16 (F q) (S 1)) ∧ A 5 a = fb_ct (fun q => decide (cl q = a)) Q ∧ (∀ x, (A 6 a).testBit x = true ↔ ∃ q, q < Q ∧ cl q = a ∧ (kWh S (kLd S c (F q)) (F q) (S 1)).testBit x = true) ∧ ∀ q, q < Q → cl q = a → A 7 a ≤ pk16 (F q) (S 1))
    (hA1 : ∀ f a, a < sz → A1 f a = A f a) (hk1 : A1 1 i = kLd S c (F Q)) (hk2 : A1 2 i = kBa S (kLd S c (F Q)) (F Q) (S 1)) (hk3 : A1 3 i = kHo S (kLd S c (F Q)) (F Q) (S 1) &&& ask) (hk4 : A1 4 i = kBr S (kLd S c (F Q)) (F Q) (S 1)) (hnew : i = sz → A1 5 i = 0 ∧ A1 6 i = 0 ∧ pk16 (F Q) (S 1) ≤ A1 7 i)
    (hA : AMm p sz1 (fun f a => if a = i then (if f = 5 then A1 5 i + 1 else if f = 6 then A1 6 i ||| kWh S (kLd S c (F Q)) (F Q) (S 1) else if f = 7 then (if pk16 (F Q) (S 1) < A1 7 i then pk16 (F Q) (S 1) else A1 7 i) else A1 f a) else A1 f a) m2) :
    WRl S ask c p F (Q + 1) sz1 (fun q => if q = Q then i else cl q) (fun f a => if a = i then (if f = 5 then A1 5 i + 1 else if f = 6 then A1 6 i ||| kWh S (kLd S c (F Q)) (F Q) (S 1) else if f = 7 then (if pk16 (F Q) (S 1) < A1 7 i then pk16 (F Q) (S 1) else A1 7 i) else A1 f a) else A1 f a) m2 := by
  have hct : ∀ a, fb_ct (fun q => decide ((if q = Q then i else cl q) = a)) (Q + 1) = fb_ct (fun q => decide (cl q = a)) Q + (if i = a then 1 else 0) := by
    intro a
    rw [fb_ct_succ, fb_ct_cong (q := fun q => decide (cl q = a)) fun q hq => by rw [if_neg (by omega)]]
    congr 1
    rw [if_pos rfl]
    by_cases z : i = a
    · rw [if_pos (decide_eq_true z), if_pos z]
    · rw [if_neg (by rw [decide_eq_false z]; decide), if_neg z]
  refine ⟨h2, by omega, fun q hq => ?_, fun a ha => ?_, hA⟩
  · by_cases z : q = Q
    · subst z
      simp only [if_true]
      refine ⟨hi, ?_, ?_, ?_, ?_⟩
      · rw [if_neg (by decide), if_neg (by decide), if_neg (by decide)]; exact hk1
      · rw [if_neg (by decide), if_neg (by decide), if_neg (by decide)]; exact hk2
      · rw [if_neg (by decide), if_neg (by decide), if_neg (by decide)]; exact hk3
      · rw [if_neg (by decide), if_neg (by decide), if_neg (by decide)]; exact hk4
    · simp only [if_neg z]
      obtain ⟨r1, r2, r3, r4, r5⟩ := hR3 q (by omega)
      have hsm : ∀ f, f ≠ 5 → f ≠ 6 → f ≠ 7 → (if cl q = i then (if f = 5 then A1 5 i + 1 else if f = 6 then A1 6 i ||| kWh S (kLd S c (F Q)) (F Q) (S 1) else if f = 7 then (if pk16 (F Q) (S 1) < A1 7 i then pk16 (F Q) (S 1) else A1 7 i) else A1 f (cl q)) else A1 f (cl q)) = A f (cl q) := by
        intro f f5 f6 f7
        by_cases z2 : cl q = i
        · rw [if_pos z2, if_neg f5, if_neg f6, if_neg f7]; exact hA1 f _ r1
        · rw [if_neg z2]; exact hA1 f _ r1
      refine ⟨by omega, ?_, ?_, ?_, ?_⟩
      · rw [hsm 1 (by decide) (by decide) (by decide)]; exact r2
      · rw [hsm 2 (by decide) (by decide) (by decide)]; exact r3
      · rw [hsm 3 (by decide) (by decide) (by decide)]; exact r4
      · rw [hsm 4 (by decide) (by decide) (by decide)]; exact r5
  · by_cases z : a = i
    · subst z
      simp only [if_true, show ¬ (7 : Nat) = 5 by decide, show ¬ (7 : Nat) = 6 by decide, show ¬ (6 : Nat) = 5 by decide, if_false]
      rw [hct a, if_pos rfl]
      by_cases y : a < sz
      · obtain ⟨⟨q, s1, s2, s3⟩, s4, s5, s6⟩ := hR4 a y
        rw [hA1 5 a y, hA1 6 a y, hA1 7 a y]
        refine ⟨?_, by rw [s4], fun x => ?_, fun q' hq' he => ?_⟩
        · by_cases v : pk16 (F Q) (S 1) < A 7 a
          · rw [if_pos v]; exact ⟨Q, by omega, by rw [if_pos rfl], rfl⟩
          · rw [if_neg v]; exact ⟨q, by omega, by rw [if_neg (by omega)]; exact s2, s3⟩
        · rw [Nat.testBit_or, Bool.or_eq_true, s5 x]
          constructor
          · rintro (⟨q', t1, t2, t3⟩ | t)
            · exact ⟨q', by omega, by rw [if_neg (by omega)]; exact t2, t3⟩
            · exact ⟨Q, by omega, by rw [if_pos rfl], t⟩
          · rintro ⟨q', t1, t2, t3⟩
            by_cases v : q' = Q
            · rw [v] at t3; exact Or.inr t3
            · rw [if_neg v] at t2; exact Or.inl ⟨q', by omega, t2, t3⟩
        · by_cases v : q' = Q
          · rw [v]; split <;> omega
          · rw [if_neg v] at he
            have := s6 q' (by omega) he
            split <;> omega
      · have hai : a = sz := by omega
        obtain ⟨n5, n6, n7⟩ := hnew hai
        have nocl : ∀ q, q < Q → cl q ≠ a := fun q hq he => by have := (hR3 q hq).1; omega
        rw [n5, n6]
        have h0 : fb_ct (fun q => decide (cl q = a)) Q = 0 := fb_ct_zero.mpr fun q hq => decide_eq_false (nocl q hq)
        refine ⟨?_, by rw [h0], fun x => ?_, fun q' hq' he => ?_⟩
        · refine ⟨Q, by omega, by rw [if_pos rfl], ?_⟩
          split <;> omega
        · rw [Nat.zero_or]
          constructor
          · intro t; exact ⟨Q, by omega, by rw [if_pos rfl], t⟩
          · rintro ⟨q', t1, t2, t3⟩
            by_cases v : q' = Q
            · rw [v] at t3; exact t3
            · rw [if_neg v] at t2; exact absurd t2 (nocl q' (by omega))
        · by_cases v : q' = Q
          · rw [v]; split <;> omega
          · rw [if_neg v] at he; exact absurd he (nocl q' (by omega))
    · have hasz : a < sz := by omega
      obtain ⟨⟨q, s1, s2, s3⟩, s4, s5, s6⟩ := hR4 a hasz
      simp only [if_neg z]
      rw [hct a, if_neg (fun y => z y.symm), hA1 5 a hasz, hA1 6 a hasz, hA1 7 a hasz]
      refine ⟨⟨q, by omega, by rw [if_neg (by omega)]; exact s2, s3⟩, s4, fun x => ?_, fun q' hq' he => ?_⟩
      · rw [s5 x]
        constructor
        · rintro ⟨q', t1, t2, t3⟩; exact ⟨q', by omega, by rw [if_neg (by omega)]; exact t2, t3⟩
        · rintro ⟨q', t1, t2, t3⟩
          by_cases v : q' = Q
          · rw [if_pos v] at t2; exact absurd t2.symm z
          · rw [if_neg v] at t2; exact ⟨q', by omega, t2, t3⟩
      · by_cases v : q' = Q
        · rw [if_pos v] at he; exact absurd he.symm z
        · rw [if_neg v] at he; exact s6 q' (by omega) he
theorem find_sp2 {p sz nf : Nat} {A : Nat → Nat → Nat} {m : rn_Mem} {x1 x2 x3 x4 : Nat} (hnf : 30 < nf) (hsz : sz < 24) (h2 : m.1 p 2 = nI sz) (hA : AMm p sz A m) (hb : ∀ a, a < sz → A 1 a < 2 ^ 31 ∧ A 2 a < 2 ^ 31 ∧ A 3 a < 2 ^ 31 ∧ A 4 a < 2 ^ 31) (b1 : x1 < 2 ^ 31) (b2 : x2 < 2 ^ 31) (b3 : x3 < 2 ^ 31) (b4 : x4 < 2 ^ 31) : (∃ i, i < sz ∧ A 1 i = x1 ∧ A 2 i = x2 ∧ A 3 i = x3 ∧ A 4 i = x4 ∧ wa_find nf p (nI x1) (nI x2) (nI x3) (nI x4) m = some (nI i, m)) ∨ ∃ m2 A1, wa_find nf p (nI x1) (nI x2) (nI x3) (nI x4) m = some (nI sz, m2) ∧ m2.1 p 2 = nI (sz + 1) ∧ AMm p (sz + 1) A1 m2 ∧ Kw p m m2 ∧ (∀ f a, a < sz → A1 f a = A f a) ∧ A1 1 sz = x1 ∧ A1 2 sz = x2 ∧ A1 3 sz = x3 ∧ A1 4 sz = x4 ∧ A1 5 sz = 0 ∧ A1 6 sz = 0 ∧ A1 7 sz = 65535 := by
  rcases find_sp hnf hsz h2 hA hb b1 b2 b3 b4 with h | ⟨m1, j1, j2, j3, j4⟩
  · exact Or.inl h
  · refine Or.inr ⟨m1, _, j1, j2, j3, j4, fun f a ha => if_neg (by omega), ?_, ?_, ?_, ?_, ?_, ?_, ?_⟩
    all_goals
      show (if sz = sz then _ else _) = _
      rw [if_pos rfl]
      first | rfl | (repeat (first | rw [if_neg (by decide)] | rw [if_pos rfl]))
def wa_tail (n p : Nat) (a3 : Int32) (Wh : Int64) (r66 : Int32) (m65 : rn_Mem) : Option rn_Mem := if r66 < 0 then some m65 else if rn_in r66 24 = true then if rn_in r66 24 = true then (some (rm_i m65 (p + 5) r66.toNatClampNeg ((m65.1 (p + 5) r66.toNatClampNeg) + 1))).bind fun (m71 : rn_Mem) => if rn_in r66 24 = true then if rn_in r66 24 = true then (some (rm_j m71 (p + 6) r66.toNatClampNeg ((m71.2 (p + 6) r66.toNatClampNeg) ||| Wh))).bind fun (m74 : rn_Mem) => if rn_in r66 24 = true then (ja_min n (m74.1 (p + 7) r66.toNatClampNeg) a3 m74).bind fun (r78, m77) => if rn_in r66 24 = true then (some (rm_i m77 (p + 7) r66.toNatClampNeg r78)).bind fun (m80 : rn_Mem) => some m80 else none else none else none else none else none else none
theorem note_abt {nf p : Nat} {m : rn_Mem} {a3 a4 x1 J W x33 B H R : Int32} {Wh : Int64} (h1 : (a3 >>> (((4 : Int32) * ((m.1 52 1) - 1)) &&& 31)) &&& 15 = x1) (h2 : wa_note_l21 p 52 57 a3 a4 x1 nf (-1) 0 m = some (J, m)) (h3 : ga_winnerOf nf J m = some (W, m)) (h4 : (if (m.1 p 0) - W < 0 then some ((m.1 p 0) - W + (m.1 52 1)) else some ((m.1 p 0) - W)) = some x33) (h5 : wa_note_l117 p 52 57 a3 a4 x1 x33 nf x33 0 0 0 0 ((m.1 52 1) - 1) m = some (B, H, R, Wh, m)) : wa_note nf p 52 57 a3 a4 m = (wa_find nf p x33 B (H &&& a4) R m).bind (fun q => wa_tail nf p a3 Wh q.1 q.2) := by
  unfold wa_note
  rw [Option.bind_some, h1, h2, Option.bind_some]
  show (ga_winnerOf nf J m).bind _ = _
  rw [h3, Option.bind_some]
  show (some ((m.1 p 0) - W)).bind _ = _
  rw [Option.bind_some, h4, Option.bind_some, Option.bind_some, h5, Option.bind_some]
  rfl
theorem note_run {S : Nat → Nat} {ask c p : Nat} {F : Nat → Nat → Nat} {Q nf : Nat} {m : rn_Mem} (hnf : 60 < nf) (wg : WG S) (wc : WC S) (h0 : S 0 = 1) (hG : cGa S (m.1 52)) (hC : CLm S 57 m) (hc : c < S 1) (hp0 : m.1 p 0 = nI c) (hask : ask < 65536) (hQ : Q < 24) (hF : ∀ q, q ≤ Q → ∀ i, i < S 1 → F q i < 16) : wa_note nf p 52 57 (nI (pk16 (F Q) (S 1))) (nI ask) m = (wa_find nf p (nI (kLd S c (F Q))) (nI (kBa S (kLd S c (F Q)) (F Q) (S 1))) (nI (kHo S (kLd S c (F Q)) (F Q) (S 1) &&& ask)) (nI (kBr S (kLd S c (F Q)) (F Q) (S 1))) m).bind (fun q => wa_tail nf p (nI (pk16 (F Q) (S 1))) (lN (kWh S (kLd S c (F Q)) (F Q) (S 1))) q.1 q.2) := by
  obtain ⟨g1, g2, g3, g4, g5, g6, g7, g8⟩ := hG.2 h0
  obtain ⟨w1, w2, w3, w4, w5, w6, w7, w8, w9⟩ := wg
  have wg : WG S := ⟨w1, w2, w3, w4, w5, w6, w7, w8, w9⟩
  have hFQ := hF Q (Nat.le_refl Q)
  have hpk := pk16_lt hFQ
  have hpk4 : 16 ^ S 1 ≤ 16 ^ 4 := Nat.pow_le_pow_right (by decide) w2
  have hpkb : pk16 (F Q) (S 1) < 65536 := Nat.lt_of_lt_of_le hpk hpk4
  have hwp := wp_le (S 4) (F Q) (S 1 - 1)
  have hL := kLd_lt (S := S) (c := c) (f := F Q) (by omega)
  have e1 := pk_at (f := F Q) (n := S 1) (j := 0) w2 (by omega) hFQ
  rw [Nat.sub_zero] at e1
  have e2 := note_l21_sp (q0 := p) (q2 := 57) (a4 := nI ask) (a5 := nI (F Q 0)) wg hFQ g1 g4 (S 1) 0 nf (by omega) (by omega)
  rw [show jo (S 1) (S 4) 0 (F Q) 0 = mI 1 from rfl, ← mi1, ← k0] at e2
  have e3 : jo (S 1) (S 4) 0 (F Q) (S 1) = nI (jc (S 1) (S 4) 0 (F Q) (S 1 - 1)) := by
    rw [show S 1 = (S 1 - 1) + 1 by omega]; rfl
  have e4 := jc_win (n := nf) (k := S 1) (tr := S 4) (L := 0) (j := S 1 - 1) (f := F Q) (m := m) (by omega) w2 (fun i hi => hFQ i (by omega))
  rw [Nat.zero_add, Nat.mod_eq_of_lt (by omega)] at e4
  have e5 : (if nI c - nI (wp (S 4) (F Q) (S 1 - 1)) < 0 then some (nI c - nI (wp (S 4) (F Q) (S 1 - 1)) + nI (S 1)) else some (nI c - nI (wp (S 4) (F Q) (S 1 - 1)))) = some (nI (kLd S c (F Q))) := by
    unfold kLd
    by_cases z : c < wp (S 4) (F Q) (S 1 - 1)
    · rw [if_pos (pk_sneg (by omega) z), Nat.mod_eq_of_lt (by omega)]
      congr 1
      rw [i_eq, nI_int (by omega)]
      have t1 := pk_sub_toInt (a := c) (b := wp (S 4) (F Q) (S 1 - 1)) (by omega) (by omega)
      rw [fb_addI (by rw [t1, nI_int (by omega)]; omega) (by rw [t1, nI_int (by omega)]; omega), t1, nI_int (by omega)]
      omega
    · rw [pk_sub (by omega), if_neg (by rw [k0, nI_ltI (by omega) (by omega)]; omega), show c + S 1 - wp (S 4) (F Q) (S 1 - 1) = c - wp (S 4) (F Q) (S 1 - 1) + S 1 by omega, Nat.add_mod_right, Nat.mod_eq_of_lt (by omega)]
  have e6 := note_l117_sp (q0 := p) (L := kLd S c (F Q)) (a4 := nI ask) (a7 := nI (kLd S c (F Q))) wg wc hFQ hG h0 hC (S 1) 0 nf (by omega) (by omega)
  rw [Nat.add_zero, Nat.mod_eq_of_lt hL, Nat.sub_zero, show kBa S (kLd S c (F Q)) (F Q) 0 = 0 from rfl, show kHo S (kLd S c (F Q)) (F Q) 0 = 0 from rfl, show kBr S (kLd S c (F Q)) (F Q) 0 = 0 from rfl, show kWh S (kLd S c (F Q)) (F Q) 0 = 0 from rfl, ← k0, ← fa_litL 0] at e6
  have e7 : nI (S 1) - 1 = nI (S 1) + (-1) := by
    rw [show nI (S 1) - 1 = nI (S 1 - 1) from pk_sub (b := 1) (by omega), show nI (S 1) + (-1) = nI (S 1 - 1) by
      rw [show S 1 = (S 1 - 1) + 1 by omega]; exact pk_m1 _]
  have r := note_abt (nf := nf) (p := p) (m := m) (a3 := nI (pk16 (F Q) (S 1))) (a4 := nI ask) (x1 := nI (F Q 0)) (x33 := nI (kLd S c (F Q))) (by rw [g1, show nI (S 1) - 1 = nI (S 1 - 1) from pk_sub (b := 1) (by omega)]; exact e1) e2 (by rw [e3]; exact e4) (by rw [hp0, g1]; exact e5) (by rw [g1, e7]; exact e6)
  rw [fa_and] at r
  exact r
theorem WRl_bnd {S : Nat → Nat} {ask c p : Nat} {F : Nat → Nat → Nat} {Q sz : Nat} {cl : Nat → Nat} {A : Nat → Nat → Nat} {m : rn_Mem} (wg : WG S) (wc : WC S) (hQ : Q < 24) (hF : ∀ q, q ≤ Q → ∀ i, i < S 1 → F q i < 16) (hR : WRl S ask c p F Q sz cl A m) : ∀ a, a < sz → (A 1 a < 2 ^ 31 ∧ A 2 a < 2 ^ 31 ∧ A 3 a < 2 ^ 31 ∧ A 4 a < 2 ^ 31) ∧ A 5 a < 1000 ∧ A 7 a < 2 ^ 31 := by
  obtain ⟨r1, r2, r3, r4, r5⟩ := hR
  obtain ⟨w1, w2, w3, w4, w5, w6, w7, w8, w9⟩ := wg
  have hpk4 : 16 ^ S 1 ≤ 16 ^ 4 := Nat.pow_le_pow_right (by decide) w2
  have hAb : ∀ a, a < sz → A 1 a < 2 ^ 31 ∧ A 2 a < 2 ^ 31 ∧ A 3 a < 2 ^ 31 ∧ A 4 a < 2 ^ 31 := by
    intro a ha
    obtain ⟨⟨q, s1, s2, _⟩, _⟩ := r4 a ha
    obtain ⟨_, t1, t2, t3, t4⟩ := r3 q s1
    rw [s2] at t1 t2 t3 t4
    have hFq := hF q (by omega)
    obtain ⟨u1, u2⟩ := kBa_lt (S := S) (L := kLd S c (F q)) (f := F q) (by omega) w2 (j := S 1) hFq (fun _ => hFq 0 (by omega))
    have u3 := kBr_lt (S := S) (L := kLd S c (F q)) (f := F q) wc.1 (j := S 1)
    have u4 := kLd_lt (S := S) (c := c) (f := F q) (by omega)
    have u5 : kHo S (kLd S c (F q)) (F q) (S 1) &&& ask < 65536 := Nat.lt_of_le_of_lt Nat.and_le_left u2
    rw [t1, t2, t3, t4]
    omega
  have hA57 : ∀ a, a < sz → A 5 a < 1000 ∧ A 7 a < 2 ^ 31 := by
    intro a ha
    obtain ⟨⟨q, s1, s2, s3⟩, s4, _⟩ := r4 a ha
    have hFq := hF q (by omega)
    have h1 : pk16 (F q) (S 1) < 65536 := Nat.lt_of_lt_of_le (pk16_lt hFq) hpk4
    have h2 := fb_ct_le (fun q => decide (cl q = a)) Q
    rw [s3, s4]
    omega
  exact fun a ha => ⟨hAb a ha, hA57 a ha⟩
theorem note_sp {S : Nat → Nat} {ask c p : Nat} {F : Nat → Nat → Nat} {Q sz nf : Nat} {cl : Nat → Nat} {A : Nat → Nat → Nat} {m : rn_Mem} (hnf : 60 < nf) (wg : WG S) (wc : WC S) (h0 : S 0 = 1) (hG : cGa S (m.1 52)) (hC : CLm S 57 m) (hc : c < S 1) (hp0 : m.1 p 0 = nI c) (hask : ask < 65536) (hQ : Q < 24) (hF : ∀ q, q ≤ Q → ∀ i, i < S 1 → F q i < 16) (hR : WRl S ask c p F Q sz cl A m) : ∃ m2 sz2 cl2 A2, wa_note nf p 52 57 (nI (pk16 (F Q) (S 1))) (nI ask) m = some m2 ∧ WRl S ask c p F (Q + 1) sz2 cl2 A2 m2 ∧ Kw p m m2 := by
  obtain ⟨r1, r2, r3, r4, r5⟩ := hR
  obtain ⟨g1, g2, g3, g4, g5, g6, g7, g8⟩ := hG.2 h0
  obtain ⟨w1, w2, w3, w4, w5, w6, w7, w8, w9⟩ := wg
  have wg : WG S := ⟨w1, w2, w3, w4, w5, w6, w7, w8, w9⟩
  have hFQ := hF Q (Nat.le_refl Q)
  have hpk := pk16_lt hFQ
  have hpk4 : 16 ^ S 1 ≤ 16 ^ 4 := Nat.pow_le_pow_right (by decide) w2
  have hpkb : pk16 (F Q) (S 1) < 65536 := Nat.lt_of_lt_of_le hpk hpk4
  have hwp := wp_le (S 4) (F Q) (S 1 - 1)
  have hL := kLd_lt (S := S) (c := c) (f := F Q) (by omega)
  obtain ⟨bb1, bb2⟩ := kBa_lt (S := S) (L := kLd S c (F Q)) (f := F Q) (by omega) w2 (j := S 1) hFQ (fun _ => hFQ 0 (by omega))
  have bb4 := kBr_lt (S := S) (L := kLd S c (F Q)) (f := F Q) wc.1 (j := S 1)
  have bb3 : kHo S (kLd S c (F Q)) (F Q) (S 1) &&& ask < 65536 := Nat.lt_of_le_of_lt Nat.and_le_left bb2
  have hbn := WRl_bnd wg wc hQ hF ⟨r1, r2, r3, r4, r5⟩
  have hrun := note_run hnf wg wc h0 hG hC hc hp0 hask hQ hF
  rcases find_sp2 (x1 := kLd S c (F Q)) (x2 := kBa S (kLd S c (F Q)) (F Q) (S 1)) (x3 := kHo S (kLd S c (F Q)) (F Q) (S 1) &&& ask) (x4 := kBr S (kLd S c (F Q)) (F Q) (S 1)) (nf := nf) (by omega) (show sz < 24 by omega) r1 r5 (fun a ha => (hbn a ha).1) (by omega) (by omega) (by omega) (by omega) with ⟨i, i1, i2, i3, i4, i5, i6⟩ | ⟨m1, A1, j1, j2, j3, j4, k1', k2', k3', k4', k5', k6', k7', k8'⟩
  · obtain ⟨m2, u1, u2, u3, u4⟩ := note_upd (nf := nf) (who := kWh S (kLd S c (F Q)) (F Q) (S 1)) (pl := pk16 (F Q) (S 1)) (by omega) i1 r5 (hbn i i1).2.1 (hbn i i1).2.2 (by omega)
    refine ⟨m2, sz, _, _, ?_, WRl_step (by rw [u2]; exact r1) r2 i1 (Or.inl ⟨rfl, i1⟩) r3 r4 (fun f a _ => rfl) i2 i3 i4 i5 (fun z => by omega) u3, u4⟩
    rw [hrun, i6, Option.bind_some]
    unfold wa_tail
    rw [if_neg (by rw [k0, nI_ltI (by omega) (by omega)]; omega)]
    exact u1
  · obtain ⟨m2, u1, u2, u3, u4⟩ := note_upd (nf := nf) (i := sz) (sz := sz + 1) (who := kWh S (kLd S c (F Q)) (F Q) (S 1)) (pl := pk16 (F Q) (S 1)) (by omega) (by omega) j3 (by rw [k6']; omega) (by rw [k8']; omega) (by omega)
    refine ⟨m2, sz + 1, _, _, ?_, WRl_step (by rw [u2]; exact j2) r2 (by omega) (Or.inr ⟨rfl, rfl⟩) r3 r4 k1' k2' k3' k4' k5' (fun _ => ⟨k6', k7', by rw [k8']; omega⟩) u3, j4.tr u4⟩
    rw [hrun, j1, Option.bind_some]
    unfold wa_tail
    rw [if_neg (by rw [k0, nI_ltI (by omega) (by omega)]; omega)]
    exact u1
