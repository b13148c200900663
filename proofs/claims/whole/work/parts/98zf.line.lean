/-! THE REFERENCE'S SEARCH: goBack, findOrders -/
theorem sb_m : ∀ {k : Nat}, k < 4 → 24 * sb k ≤ 360624 := by decide
theorem gb_l11 {S : Nat → Nat} {a1 : Int32} (w4 : S 2 ≤ 4) : ∀ (r c nf : Nat) (m : rn_Mem), c + r = 4 → r < nf → m.1 116 2 = nI (S 2) → (∀ d, d < c → m.1 134 (4 * S 2 + d) = 0) → ∃ m2, mo_goBack_l11 a1 nf (nI c) m = some m2 ∧ (∀ d, d < 4 → m2.1 134 (4 * S 2 + d) = 0) ∧ m2.2 = m.2 ∧ ∀ p, p ≠ 134 → m2.1 p = m.1 p := by
  intro r
  induction r with
  | zero =>
    intro c nf m e hnf z2 h
    obtain ⟨nf, rfl⟩ : ∃ e, nf = e + 1 := ⟨nf - 1, by omega⟩
    obtain rfl : c = 4 := by omega
    exact ⟨m, by rw [mo_goBack_l11, if_neg (by decide)], h, rfl, fun _ _ => rfl⟩
  | succ r ih =>
    intro c nf m e hnf z2 h
    obtain ⟨nf, rfl⟩ : ∃ e, nf = e + 1 := ⟨nf - 1, by omega⟩
    generalize hm3 : rm_i m 134 (4 * S 2 + c) 0 = m3
    have f3 : ∀ p, p ≠ 134 → m3.1 p = m.1 p := fun p hp => by rw [← hm3]; funext i; rw [mi_get, if_neg (fun t => hp t.1)]
    obtain ⟨m2, p1, p2, p3, p4⟩ := ih (c + 1) nf m3 (by omega) (by omega) (by rw [f3 116 (by omega)]; exact z2) (fun d hd => by
      rw [← hm3, mi_get]
      by_cases y : d = c
      · rw [if_pos ⟨rfl, by rw [y]⟩]
      · rw [if_neg (by omega)]; exact h d (by omega))
    refine ⟨m2, ?_, p2, by rw [p3, ← hm3, mi_2], fun p hp => by rw [p4 p hp, f3 p hp]⟩
    rw [mo_goBack_l11, show (4 : Int32) = nI 4 from rfl, if_pos (by rw [nI_ltI (by omega) (by omega)]; omega), z2, pk_mul, nI_add, if_pos ((in_n (by omega)).mpr (by omega)), nI_n (by omega), hm3, Option.bind_some, nI_1, Option.bind_some]
    exact p1
theorem gb_sp {ι : Type} {S : Nat → Nat} {X : Nat → Nat → Nat → Nat} {w : Nat → Nat} {b M : Nat} {cn : Bool} {pc : Nat} {E : rn_Mem → Prop} {J : rn_Mem → Nat → Prop} {Tm : ι → rn_Mem → Prop} {Bq : ι → (Nat → Nat) → Prop} {Wq : (Nat → Nat) → Nat} {nf n : Nat} {m : rn_Mem} (hnf : 400000 < nf) (wg : WG S) (wc : WC S) (hH : HZ S X) (hD : DX S X) (hX : SX S X) (hF : FT S w) (hb : b < S 1) (hM : M < 2 ^ 31) (hpc : pc ≤ 4) (K : HK S X w b M cn pc E J Tm Bq Wq) (hB : n + NS (fun a b => a + b) 0 (noS S) (S 2) (fun _ => 0) (phi S X w b Wq) < BBd) (hE : E m) (hJ : J m n) (hG : GB0 S X w b M cn pc m) : ∃ m2 n2, mo_goBack nf m = some m2 ∧ J m2 n2 ∧ Kgb m m2 ∧ (∀ i, Tm i m2 ↔ Tm i m ∨ ∃ p, OKQ S X w b p ∧ (∀ j, S 2 ≤ j → p j = 0) ∧ Bq i p) ∧ n2 = n + NS (fun a b => a + b) 0 (noS S) (S 2) (fun _ => 0) (phi S X w b Wq) := by
  have w3 : 1 ≤ S 2 := wg.2.2.1
  have w4 : S 2 ≤ 4 := wg.2.2.2.1
  have h24 := (noS_le wg.1 wg.2.1).2
  have K' := K
  obtain ⟨K0, K1, K2, K3, K4⟩ := K
  obtain ⟨T, hTe⟩ : ∃ T, S 2 = T + 1 := ⟨S 2 - 1, by omega⟩
  have z2 : m.1 116 2 = nI (S 2) := hG.1.1 2 (by omega) (by omega) (by omega) (by omega)
  obtain ⟨m6, a1, a2, a3, a4⟩ := gb_l11 (S := S) (a1 := nI T) w4 4 0 nf m (by omega) (by omega) z2 (fun d hd => absurd hd (Nat.not_lt_zero d))
  generalize hm10 : rm_i (rm_i m6 135 (S 2) 0) 133 T 0 = m10
  have f10 : ∀ p, p ≠ 133 → p ≠ 135 → m10.1 p = m6.1 p := fun p h1 h2 => by rw [← hm10]; funext i; rw [mi_get, if_neg (fun t => h1 t.1), mi_get, if_neg (fun t => h2 t.1)]
  have e2 : m10.2 = m.2 := by rw [← hm10]; exact a3
  have hg : Kgb m m10 := ⟨fun p h1 h2 h3 => by rw [f10 p (by omega) (by omega), a4 p (by omega)], fun i hi => by rw [f10 115 (by omega) (by omega), a4 115 (by omega)], fun p i _ => by rw [e2]⟩
  have hf : Fr m m10 := ⟨e2, by rw [f10 115 (by omega) (by omega), a4 115 (by omega)], fun p h1 h2 => by rw [f10 p (by omega) (by omega), a4 p (by omega)]⟩
  obtain ⟨j1, j2⟩ := K1 m m10 n hf hJ
  have hT : TS S X w b (T + 1) (fun _ => 0) m10 := by
    refine ⟨fun j h1 h2 => by omega, fun j h1 h2 => ?_⟩
    obtain rfl : j = S 2 := by omega
    rw [Nat.sub_self, suQ, nbQ]
    refine ⟨fun c hc => ?_, ?_⟩
    · rw [nb4_0, f10 134 (by omega) (by omega)]
      exact a2 c (by have := wg.2.1; omega)
    · rw [← hm10, mi_get, if_neg (by omega), mi_get, if_pos ⟨rfl, rfl⟩]; rfl
  have hsu : gs (fun a b => a + b) 0 (lvS S X w b Wq T (fun _ => 0)) (noS S) = NS (fun a b => a + b) 0 (noS S) (S 2) (fun _ => 0) (phi S X w b Wq) := by rw [hTe]; rfl
  have H : LvH S X w b M cn pc E J Tm Bq Wq T 0 (fun _ => 0) m10 n := ⟨by rw [gs, Nat.add_zero, hsu]; exact hB, by omega, K0 m m10 hg hE, j1, GB0_g hG hg, hT, by rw [← hm10, mi_get, if_pos ⟨rfl, rfl⟩]; rfl, fun j h1 h2 => by omega⟩
  have hsb := sb_m (k := T) (by omega)
  have hsb2 : noS S * sb T ≤ 24 * sb T := Nat.mul_le_mul_right _ h24
  obtain ⟨u, m2, a, n2, u1, u2, u3, u4, ⟨e1, _, e3, e4⟩, u6⟩ := all_lv wg wc hH hD hX hF hb hM hpc K' T (noS S) 0 nf n m10 (fun _ => 0) (by omega) (by omega) H
  have hend : mo_goBack_l57 u (nI a) m2 = some m2 := by
    obtain ⟨u, rfl⟩ : ∃ u', u = u' + 1 := ⟨u - 1, by omega⟩
    have hG2 := GB0_g hG (hg.tr e3)
    have z2' : m2.1 116 2 = nI (S 2) := hG2.1.1 2 (by omega) (by omega) (by omega) (by omega)
    by_cases yd : dn m2
    · rw [mo_goBack_l57, z2', if_pos (by rw [nI_ltI (by omega) (by omega)]; exact u3), done_y yd, Option.bind_some]
      try simp only []
      rw [if_neg (by decide)]
    · obtain ⟨rfl, u5⟩ := u4.resolve_left yd
      have h132 : m2.1 132 a = nI (gR S X w b a) := (hG2.2.2.2.2.2.2 a (by omega)).2.2.1
      obtain ⟨u, rfl⟩ : ∃ u', u = u' + 1 := ⟨u - 1, by omega⟩
      rw [mo_goBack_l57, z2', if_pos (by rw [nI_ltI (by omega) (by omega)]; exact u3), done_n yd, Option.bind_some]
      try simp only []
      rw [if_pos trivial, if_pos ((in_n (by omega)).mpr (by omega)), if_pos ((in_n (by omega)).mpr (by omega)), nI_n (by omega), u5, h132, if_pos rfl, nI_1, Option.bind_some, z2', if_neg (by rw [nI_ltI (by omega) (by omega)]; omega), mo_goBack_l57, z2', if_neg (by rw [nI_ltI (by omega) (by omega)]; omega)]
  refine ⟨m2, n2, ?_, e1, hg.tr e3, fun i => ?_, ?_⟩
  · rw [mo_goBack, Option.bind_some, z2, show nI (S 2) - 1 = nI T by rw [show T = S 2 - 1 by omega]; exact pk_sub (b := 1) (by omega), show mo_goBack_l11 (nI T) nf 0 m = some m6 from a1, Option.bind_some, a4 116 (by omega), z2, if_pos ((in_n (by omega)).mpr (by omega)), nI_n (by omega), Option.bind_some, if_pos ((in_n (by omega)).mpr (by omega)), nI_n (by omega), hm10, Option.bind_some, u2, hend, Option.bind_some]
  · rw [e4 i, j2 i]
    constructor
    · exact fun h => h.elim Or.inl fun ⟨p, p1, p2, _, p4⟩ => Or.inr ⟨p, p1, fun j hj => p2 j (by omega), p4⟩
    · exact fun h => h.elim Or.inl fun ⟨p, p1, p2, p4⟩ => Or.inr ⟨p, p1, fun j hj => p2 j (by omega), Nat.zero_le _, p4⟩
  · rw [gs, Nat.add_zero, hsu] at u6
    exact u6
/-- what findOrders leaves alone -/
def Kh (m m2 : rn_Mem) : Prop := (∀ p, p ≠ 115 → p ≠ 119 → ¬ (120 ≤ p ∧ p ≤ 124) → ¬ (129 ≤ p ∧ p ≤ 137) → m2.1 p = m.1 p) ∧ (∀ i, i ≠ 15 → m2.1 115 i = m.1 115 i) ∧ ∀ p i, ¬ (p = 115 ∧ i = 14) → m2.2 p i = m.2 p i
theorem Kh.rf {m : rn_Mem} : Kh m m := ⟨fun _ _ _ _ _ => rfl, fun _ _ => rfl, fun _ _ _ => rfl⟩
theorem Kh.tr {m m1 m2 : rn_Mem} (h : Kh m m1) (h2 : Kh m1 m2) : Kh m m2 := ⟨fun p a b c d => by rw [h2.1 p a b c d, h.1 p a b c d], fun i a => by rw [h2.2.1 i a, h.2.1 i a], fun p i a => by rw [h2.2.2 p i a, h.2.2 p i a]⟩
theorem Kgb.h {m m2 : rn_Mem} (h : Kgb m m2) : Kh m m2 := ⟨fun p a b c d => h.1 p a c (by omega), h.2.1, h.2.2⟩
theorem Ko.h {m m2 : rn_Mem} (h : Ko m m2) : Kh m m2 ∧ Fr m m2 := ⟨⟨fun p a b c d => h.2 p (by omega) (by omega) (by omega) (by omega) (by omega) (by omega), fun i a => by rw [h.2 115 (by omega) (by omega) (by omega) (by omega) (by omega) (by omega)], fun p i _ => by rw [h.1]⟩, h.1, h.2 115 (by omega) (by omega) (by omega) (by omega) (by omega) (by omega), fun p a c => h.2 p (by omega) (by omega) (by omega) (by omega) (by omega) (by omega)⟩
/-- a line of the row w, begun by b, is kept -/
def HKo {ι : Type} (S : Nat → Nat) (X : Nat → Nat → Nat → Nat) (w : Nat → Nat) (b M : Nat) (cn : Bool) (pc : Nat) (E : rn_Mem → Prop) (J : rn_Mem → Nat → Prop) (Tm : ι → rn_Mem → Prop) (Bq : ι → (Nat → Nat) → Prop) (Wq : (Nat → Nat) → Nat) : Prop := HK S X w b M cn pc (fun m => E m ∧ COQ S X w b M) J Tm Bq Wq ∧ (∀ m m2, Kh m m2 → E m → E m2) ∧ (¬ COQ S X w b M → ∀ p, OKQ S X w b p → (∀ i, ¬ Bq i p) ∧ Wq p = 0)
def RXm (S : Nat → Nat) (M : Nat) (cn : Bool) (pc : Nat) (m : rn_Mem) : Prop := m.1 115 6 = nI M ∧ m.1 115 9 = nI (S 5) ∧ m.1 115 11 = (if cn = true then 1 else 0) ∧ ∀ c, c < 4 → (nI c = m.1 115 12 ↔ c = pc)
theorem fo_sp {ι : Type} {S : Nat → Nat} {w : Nat → Nat} {b M tc nf n : Nat} {cn : Bool} {pc : Nat} {E : rn_Mem → Prop} {J : rn_Mem → Nat → Prop} {Tm : ι → rn_Mem → Prop} {Bq : ι → (Nat → Nat) → Prop} {Wq : (Nat → Nat) → Nat} {XL : Nat → Nat → Nat → Nat} {m : rn_Mem} (hnf : 400300 < nf) (wg : WG S) (wc : WC S) (hs : ∀ c, c < S 1 → S (12 + c) ≤ 12) (htc : tc ≤ 4) (hH : HZ S XL) (hD : DX S XL) (hX : SX S (XT S tc XL)) (hF : FT S w) (hb : b < S 1) (hM : M < 2 ^ 31) (hpc : pc ≤ 4) (K : HKo S (XT S tc XL) w b M cn pc E J Tm Bq Wq) (hB : n + NS (fun a b => a + b) 0 (noS S) (S 2) (fun _ => 0) (phi S (XT S tc XL) w b Wq) < BBd) (hE : E m) (hJ : J m n) (hR : RX S tc XL w m) (hm : RXm S M cn pc m) : ∃ m2 n2, mo_findOrders nf (nI b) m = some m2 ∧ J m2 n2 ∧ Kh m m2 ∧ (∀ i, Tm i m2 ↔ Tm i m ∨ ∃ p, OKQ S (XT S tc XL) w b p ∧ (∀ j, S 2 ≤ j → p j = 0) ∧ Bq i p) ∧ n2 = n + NS (fun a b => a + b) 0 (noS S) (S 2) (fun _ => 0) (phi S (XT S tc XL) w b Wq) := by
  obtain ⟨K, KE, KC⟩ := K
  have w4 : S 2 ≤ 4 := wg.2.2.2.1
  have K1 := K.2.1
  obtain ⟨m1, fi, a1, a2, a3, a4⟩ := fo_l4 wg hs htc hb hF hH hD (S 2) 0 nf m true (by omega) (by omega) hR (fun k hk => absurd hk (Nat.not_lt_zero k)) ⟨fun _ j hj => absurd hj (Nat.not_lt_zero j), fun _ => rfl⟩
  obtain ⟨j1, j2⟩ := K1 m m1 n a4.h.2 hJ
  have e115 : m1.1 115 = m.1 115 := a4.h.2.2.1
  have e116 : m1.1 116 = m.1 116 := a4.2 116 (by omega) (by omega) (by omega) (by omega) (by omega) (by omega)
  have hG : GB0 S (XT S tc XL) w b M cn pc m1 := by
    unfold GB0
    rw [e115, e116]
    exact ⟨hR.1, hm.1, hR.2.2.1, hm.2.1, hm.2.2.1, hm.2.2.2, a2⟩
  have hno : (∀ p, OKQ S (XT S tc XL) w b p → (∀ i, ¬ Bq i p) ∧ Wq p = 0) → (∀ i, Tm i m1 ↔ Tm i m ∨ ∃ p, OKQ S (XT S tc XL) w b p ∧ (∀ j, S 2 ≤ j → p j = 0) ∧ Bq i p) ∧ n = n + NS (fun a b => a + b) 0 (noS S) (S 2) (fun _ => 0) (phi S (XT S tc XL) w b Wq) := by
    intro h
    refine ⟨fun i => ?_, ?_⟩
    · rw [j2 i]
      exact ⟨Or.inl, fun t => t.elim id fun ⟨p, p1, _, p3⟩ => absurd p3 ((h p p1).1 i)⟩
    · rw [NS_z fun p _ => by
        unfold phi
        by_cases y : OKQ S (XT S tc XL) w b p
        · rw [ifc_p y]; exact (h p y).2
        · rw [ifc_n y]]
      rfl
  have a1' : mo_findOrders_l4 (nI b) nf 1 0 m = some (if fi = true then 1 else 0, m1) := a1
  cases fi with
  | false =>
    obtain ⟨n1, n2⟩ := hno (fun p hp => by
      refine absurd (a3.mpr fun j hj => ?_) (by decide)
      exact fb_ct_pos.mpr ⟨p j, (hp j hj).1, (hp j hj).2⟩)
    refine ⟨m1, n, ?_, j1, a4.h.1, n1, n2⟩
    rw [mo_findOrders, a1', Option.bind_some]
    try simp only []
    rfl
  | true =>
    have a1t : mo_findOrders_l4 (nI b) nf 1 0 m = some (1, m1) := a1'
    have h137 : ∀ x, x < 16 → (S 3).testBit x = true → m1.1 137 x = nI (trR S (XT S tc XL) w x) ∧ trR S (XT S tc XL) w x < 4 := fun x hx hp => by
      obtain ⟨l, t, h1, h2, h3⟩ := SX_tr hX hF hx hp
      rw [← h3, tr_sp wg (XT_DX hD) hF h1 h2]
      exact ⟨((a2 l h1).2.1 t h2).2, by omega⟩
    obtain ⟨c, c1, c2⟩ := clo_sp (nf := nf) (M := M) (ld := ldR S w b) (tr := trR S (XT S tc XL) w) (m := m1) (by omega) wg wc (by rw [e116]; exact hR.1) hM (by rw [e115]; exact hm.1) h137 (fun k hk => ⟨(a2 k hk).1, Nat.lt_of_lt_of_le (ldR_lt wg hb fun j hj => hF.1 j (by omega)) wg.2.1⟩)
    cases c with
    | false =>
      obtain ⟨n1, n2⟩ := hno (KC fun h => absurd (c2.mpr h) (by decide))
      refine ⟨m1, n, ?_, j1, a4.h.1, n1, n2⟩
      rw [mo_findOrders, a1t, Option.bind_some]
      try simp only []
      rw [if_neg (show ¬ (1 : Int32) = 0 by decide), c1, Option.bind_some]
      rfl
    | true =>
      obtain ⟨m2, nn, g1, g2, g3, g4, g5⟩ := gb_sp (nf := nf) (by omega) wg wc (XT_HZ hH) (XT_DX hD) hX hF hb hM hpc K hB ⟨KE m m1 a4.h.1 hE, c2.mp rfl⟩ j1 hG
      refine ⟨m2, nn, ?_, g2, a4.h.1.tr g3.h, fun i => by rw [g4 i, j2 i], g5⟩
      rw [mo_findOrders, a1t, Option.bind_some]
      try simp only []
      rw [if_neg (show ¬ (1 : Int32) = 0 by decide), show mo_cluesLetOrder nf m1 = some (1, m1) from c1, Option.bind_some]
      try simp only []
      rw [if_neg (show ¬ (1 : Int32) = 0 by decide), g1, Option.bind_some]
