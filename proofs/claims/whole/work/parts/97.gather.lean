/-! SEARCH: the ways of all tricks gathered -/
def askS (S : Nat → Nat) : Nat := if S 5 = 1 then sak S (S 10) else 65535
theorem askS_lt {S : Nat → Nat} (wg : WG S) (wc : WC S) : askS S < 65536 := by
  unfold askS
  split
  · exact sak_lt wg fun k hk => wc.2 k hk
  · omega
/-- what is known of the ways of a trick of c's heap with cards g -/
def WPr (S : Nat → Nat) (c : Nat) (g : Nat → Nat) (sz : Nat) (cl : Nat → Nat) (A : Nat → Nat → Nat) : Prop := sz ≤ noS S ∧ (∀ q, q < noS S → cl q < sz ∧ A 1 (cl q) = kLd S c (fun j => g (od (S 1) q j)) ∧ A 2 (cl q) = kBa S (kLd S c (fun j => g (od (S 1) q j))) (fun j => g (od (S 1) q j)) (S 1) ∧ A 3 (cl q) = kHo S (kLd S c (fun j => g (od (S 1) q j))) (fun j => g (od (S 1) q j)) (S 1) &&& askS S ∧ A 4 (cl q) = kBr S (kLd S c (fun j => g (od (S 1) q j))) (fun j => g (od (S 1) q j)) (S 1)) ∧ ∀ a, a < sz → (∃ q, q < noS S ∧ cl q = a ∧ A 7 a = pk16 (fun j => g (od (S 1) q j)) (S 1)) ∧ A 5 a = fb_ct (fun q => decide (cl q = a)) (noS S) ∧ (∀ x, (A 6 a).testBit x = true ↔ ∃ q, q < noS S ∧ cl q = a ∧ (kWh S (kLd S c (fun j => g (od (S 1) q j))) (fun j => g (od (S 1) q j)) (S 1)).testBit x = true) ∧ ∀ q, q < noS S → cl q = a → A 7 a ≤ pk16 (fun j => g (od (S 1) q j)) (S 1)
def TK (S : Nat → Nat) (c p : Nat) (g : Nat → Nat) (m : rn_Mem) : Prop := m.1 p 0 = nI c ∧ m.1 p 1 = nI (msk g (S 1)) ∧ ∃ sz cl A, m.1 p 2 = nI sz ∧ WPr S c g sz cl A ∧ AMm p sz A m
theorem TK_kp {S : Nat → Nat} {c p : Nat} {g : Nat → Nat} {m m2 : rn_Mem} (h : TK S c p g m) (h1 : ∀ r, p ≤ r → r ≤ p + 7 → m2.1 r = m.1 r) (h2 : m2.2 (p + 6) = m.2 (p + 6)) : TK S c p g m2 := by
  obtain ⟨a1, a2, sz, cl, A, a3, a4, a5⟩ := h
  refine ⟨by rw [h1 p (by omega) (by omega)]; exact a1, by rw [h1 p (by omega) (by omega)]; exact a2, sz, cl, A, by rw [h1 p (by omega) (by omega)]; exact a3, a4, ?_⟩
  unfold AMm at *
  rw [h1 (p + 1) (by omega) (by omega), h1 (p + 2) (by omega) (by omega), h1 (p + 3) (by omega) (by omega), h1 (p + 4) (by omega) (by omega), h1 (p + 5) (by omega) (by omega), h1 (p + 7) (by omega) (by omega), h2]
  exact a5
theorem gather_l122_sp {S : Nat → Nat} {p fs : Nat} {g : Nat → Nat} {a1 a2 a3 a4 : Int32} (hn4 : S 1 ≤ 4) (hp : 70 ≤ p) (hfs : fs + S 1 ≤ 48) (hg : ∀ j, j < S 1 → g j < 16) : ∀ (s j nf : Nat) (m : rn_Mem), j + s = S 1 → s < nf → m.1 52 1 = nI (S 1) → (∀ j, j < S 1 → m.1 56 (fs + j) = nI (g j)) → m.1 p 1 = nI (msk g j) → ∃ m2, se_gather_l122 a1 a2 a3 a4 p (nI fs) nf (nI j) m = some m2 ∧ m2.1 p 1 = nI (msk g (S 1)) ∧ (∀ r i, ¬ (r = p ∧ i = 1) → m2.1 r i = m.1 r i) ∧ m2.2 = m.2 := by
  intro s
  induction s with
  | zero =>
    intro j nf m e hnf h1 h56 hm
    obtain ⟨nf, rfl⟩ : ∃ e, nf = e + 1 := ⟨nf - 1, by omega⟩
    obtain rfl : j = S 1 := by omega
    refine ⟨m, ?_, hm, fun _ _ _ => rfl, rfl⟩
    rw [se_gather_l122, h1, if_neg (by rw [nI_ltI (by omega) (by omega)]; omega)]
  | succ s ih =>
    intro j nf m e hnf h1 h56 hm
    obtain ⟨nf, rfl⟩ : ∃ e, nf = e + 1 := ⟨nf - 1, by omega⟩
    have hgj := hg j (by omega)
    obtain ⟨m2, q1, q2, q3, q4⟩ := ih (j + 1) nf (rm_i m p 1 (nI (msk g (j + 1)))) (by omega) (by omega) (by rw [mi_get, if_neg (by omega)]; exact h1) (fun i hi => by rw [mi_get, if_neg (by omega)]; exact h56 i hi) (by rw [mi_get, if_pos ⟨rfl, rfl⟩])
    refine ⟨m2, ?_, q2, fun r i hr => by rw [q3 r i hr, mi_get, if_neg hr], by rw [q4, mi_2]⟩
    rw [se_gather_l122, h1, if_pos (by rw [nI_ltI (by omega) (by omega)]; omega), nI_add, if_pos ((in_n (by omega)).mpr (by omega)), nI_n (by omega), h56 j (by omega), hm, shl_1 (by omega), fa_or]
    rw [Option.bind_some, Option.bind_some, nI_1]
    exact q1
def Pga (p i : Nat) : Prop := (p = 51 ∧ i = 9) ∨ p = 63 ∨ p = 64 ∨ (70 ≤ p ∧ p ≤ 101)
def Kg (m m2 : rn_Mem) : Prop := (∀ p i, ¬ Pga p i → m2.1 p i = m.1 p i) ∧ ∀ p, p < 70 ∨ 101 < p → m2.2 p = m.2 p
theorem Kg.rf {m : rn_Mem} : Kg m m := ⟨fun _ _ _ => rfl, fun _ _ => rfl⟩
theorem Kg.tr {m m1 m2 : rn_Mem} (h : Kg m m1) (h2 : Kg m1 m2) : Kg m m2 := ⟨fun p i hp => (h2.1 p i hp).trans (h.1 p i hp), fun p hp => (h2.2 p hp).trans (h.2 p hp)⟩
theorem GMm_kg {S : Nat → Nat} {m m2 : rn_Mem} (h : GMm S m) (hk : Kg m m2) : GMm S m2 := by
  have e : ∀ r, r = 52 ∨ (57 ≤ r ∧ r ≤ 61) → m2.1 r = m.1 r := fun r hr => by funext i; exact hk.1 r i (by unfold Pga; omega)
  refine ⟨by rw [e 52 (by omega)]; exact h.1, h.2.1, ?_⟩
  unfold CLm
  rw [e 57 (by omega), e (57 + 1) (by omega), e (57 + 2) (by omega), e (57 + 3) (by omega), e (57 + 4) (by omega)]
  exact h.2.2
theorem prm_get {S : Nat → Nat} {g : Nat → Nat} {q j : Nat} (hq : q < noS S) (hj : j < S 1) : rw_ g ((prm (S 1) (noS S)).getD q []) j = g (od (S 1) q j) := by
  have e : (prm (S 1) (noS S)).getD q [] = (List.range (S 1)).map fun j => od (S 1) q j := by
    unfold prm
    rw [List.getD_eq_getElem?_getD, List.getElem?_map, List.getElem?_range hq]
    rfl
  unfold rw_
  rw [e, List.getD_eq_getElem?_getD, List.getElem?_map, List.getElem?_range hj]
  rfl
theorem wp_cc {tr : Nat} {f g : Nat → Nat} {k : Nat} (h : ∀ i, i ≤ k → f i = g i) : wp tr f k = wp tr g k := wp_c h
theorem kLd_c {S : Nat → Nat} {c : Nat} {f g : Nat → Nat} (hn : 0 < S 1) (h : ∀ i, i < S 1 → f i = g i) : kLd S c f = kLd S c g := by
  unfold kLd
  rw [wp_c (f := f) (g := g) fun i hi => h i (by omega)]
theorem kall_c {S : Nat → Nat} {L : Nat} {f g : Nat → Nat} : ∀ {j : Nat}, (∀ i, i < j → f i = g i) → (0 < j → f 0 = g 0) → kBa S L f j = kBa S L g j ∧ kHo S L f j = kHo S L g j ∧ kBr S L f j = kBr S L g j ∧ kWh S L f j = kWh S L g j
  | 0, _, _ => ⟨rfl, rfl, rfl, rfl⟩
  | j + 1, h, h0 => by
    obtain ⟨i1, i2, i3, i4⟩ := kall_c (S := S) (L := L) (f := f) (g := g) (j := j) (fun i hi => h i (by omega)) (fun _ => h0 (by omega))
    rw [kBa, kBa, kHo, kHo, kBr, kBr, kWh, kWh, i1, i2, i3, i4, h j (by omega), h0 (by omega)]
    exact ⟨rfl, rfl, rfl, rfl⟩
/-- one trick's ways -/
theorem gather_one {S : Nat → Nat} {c p fs nf : Nat} {g : Nat → Nat} {m : rn_Mem} {a1 a2 a3 a4 : Int32} (hnf : 300 < nf) (wg : WG S) (wc : WC S) (hc : c < S 1) (hp : 70 ≤ p) (hfs : fs + S 1 ≤ 48) (hg : ∀ j, j < S 1 → g j < 16) (hG : GMm S m) (h56 : ∀ j, j < S 1 → m.1 56 (fs + j) = nI (g j)) : ∃ m2 m3 m4, wa_begin nf p (nI c) m = some m2 ∧ se_gather_l122 a1 a2 a3 a4 p (nI fs) nf 0 m2 = some m3 ∧ se_arrange nf 16 p (nI fs) 0 0 0 (nI (askS S)) m3 = some m4 ∧ m2.1 52 1 = nI (S 1) ∧ TK S c p g m4 ∧ (∀ r i, ¬ (p ≤ r ∧ r ≤ p + 7) → m4.1 r i = m.1 r i) ∧ ∀ r, r ≠ p + 6 → m4.2 r = m.2 r := by
  obtain ⟨w1, w2, w3, w4, w5, w6, w7, w8, w9, w10, w11⟩ := wg
  have wg : WG S := ⟨w1, w2, w3, w4, w5, w6, w7, w8, w9, w10, w11⟩
  have g1 := (hG.1.2 hG.2.1).1
  generalize hm2 : rm_i (rm_i (rm_i m p 0 (nI c)) p 1 0) p 2 0 = m2
  have f2 : ∀ r i, ¬ (r = p ∧ i ≤ 2) → m2.1 r i = m.1 r i := by
    intro r i hr
    rw [← hm2, mi_get, if_neg (by omega), mi_get, if_neg (by omega), mi_get, if_neg (by omega)]
  have f22 : m2.2 = m.2 := by rw [← hm2]; rfl
  have h20 : m2.1 p 0 = nI c := by rw [← hm2, mi_get, if_neg (by omega), mi_get, if_neg (by omega), mi_get, if_pos ⟨rfl, rfl⟩]
  have h21 : m2.1 p 1 = nI (msk g 0) := by rw [← hm2, mi_get, if_neg (by omega), mi_get, if_pos ⟨rfl, rfl⟩]; rfl
  have h22 : m2.1 p 2 = nI 0 := by rw [← hm2, mi_get, if_pos ⟨rfl, rfl⟩]; rfl
  obtain ⟨m3, b1, b2, b3, b4⟩ := gather_l122_sp (S := S) (a1 := a1) (a2 := a2) (a3 := a3) (a4 := a4) w2 hp hfs hg (S 1) 0 nf m2 (by omega) (by omega) (by rw [f2 52 1 (by omega)]; exact g1) (fun j hj => by rw [f2 56 _ (by omega)]; exact h56 j hj) h21
  have e3 : ∀ r, r < 70 → m3.1 r = m.1 r := fun r hr => by funext i; rw [b3 r i (by omega), f2 r i (by omega)]
  have hG3 : GMm S m3 := by
    refine ⟨by rw [e3 52 (by omega)]; exact hG.1, hG.2.1, ?_⟩
    unfold CLm
    rw [e3 57 (by omega), e3 (57 + 1) (by omega), e3 (57 + 2) (by omega), e3 (57 + 3) (by omega), e3 (57 + 4) (by omega)]
    exact hG.2.2
  have hno := noS_le (S := S) w1 w2
  have hnf' := noS_f (S := S) w1 w2
  have harf := arf_S (S := S) w1 w2 w10
  have hprl : (prm (S 1) (noS S)).length = noS S := by unfold prm; rw [List.length_map, List.length_range]
  obtain ⟨m4, c1, c2, c3, c4⟩ := arrange_sp (S := S) (ask := askS S) (c := c) (p := p) (fs := fs) (g := g) (nf := nf) (by omega) wg wc hc (askS_lt wg wc) hp hfs hg (S 1) 0 16 0 [] [] m3 (by omega) (by omega) (by omega) rfl (fun j hj => absurd hj (Nat.not_lt_zero j)) (fun q hq => absurd hq (Nat.not_lt_zero q)) (by rw [harf, hprl]; omega) hG3 (by rw [b3 p 0 (by omega)]; exact h20) (fun j hj => by rw [e3 56 (by omega)]; exact h56 j hj) ⟨0, fun _ => 0, fun _ _ => 0, by rw [b3 p 2 (by omega)]; exact h22, Nat.le_refl 0, fun q hq => absurd hq (Nat.not_lt_zero q), fun a ha => absurd ha (Nat.not_lt_zero a), fun a ha => absurd ha (Nat.not_lt_zero a)⟩
  rw [harf] at c2
  obtain ⟨sz, cl, A, r1, r2, r3, r4, r5⟩ := c2
  rw [hprl] at r2 r3 r4
  have hF : ∀ q, q < noS S → ∀ i, i < S 1 → rw_ g ((prm (S 1) (noS S)).getD q []) i = (fun j => g (od (S 1) q j)) i := fun q hq i hi => prm_get hq hi
  have hk : ∀ q, q < noS S → kLd S c (rw_ g ((prm (S 1) (noS S)).getD q [])) = kLd S c (fun j => g (od (S 1) q j)) := fun q hq => kLd_c (by omega) (hF q hq)
  refine ⟨m2, m3, m4, ?_, b1, c1, by rw [f2 52 1 (by omega)]; exact g1, ⟨?_, ?_, sz, cl, A, r1, ⟨r2, fun q hq => ?_, fun a ha => ?_⟩, r5⟩, fun r i hr => ?_, fun r hr => ?_⟩
  · rw [← hm2]; rfl
  · rw [c4.1 p 0 (by omega), b3 p 0 (by omega)]; exact h20
  · rw [c4.1 p 1 (by omega)]; exact b2
  · obtain ⟨t1, t2, t3, t4, t5⟩ := r3 q hq
    obtain ⟨v1, v2, v3, v4⟩ := kall_c (S := S) (L := kLd S c (fun j => g (od (S 1) q j))) (hF q hq) (fun _ => hF q hq 0 (by omega))
    rw [hk q hq] at t2 t3 t4 t5
    rw [v1] at t3
    rw [v2] at t4
    rw [v3] at t5
    exact ⟨t1, t2, t3, t4, t5⟩
  · obtain ⟨⟨q, s1, s2, s3⟩, s4, s5, s6⟩ := r4 a ha
    refine ⟨⟨q, s1, s2, ?_⟩, s4, fun x => ?_, fun q hq he => ?_⟩
    · rw [s3]; exact pk16_c (hF q s1)
    · rw [s5 x]
      have hw : ∀ q, q < noS S → kWh S (kLd S c (rw_ g ((prm (S 1) (noS S)).getD q []))) (rw_ g ((prm (S 1) (noS S)).getD q [])) (S 1) = kWh S (kLd S c (fun j => g (od (S 1) q j))) (fun j => g (od (S 1) q j)) (S 1) := fun q hq => by
        rw [hk q hq]; exact (kall_c (hF q hq) (fun _ => hF q hq 0 (by omega))).2.2.2
      constructor
      · rintro ⟨q, t1, t2, t3⟩; exact ⟨q, t1, t2, by rw [← hw q t1]; exact t3⟩
      · rintro ⟨q, t1, t2, t3⟩; exact ⟨q, t1, t2, by rw [hw q t1]; exact t3⟩
    · have := s6 q hq he
      rw [show pk16 (fun j => g (od (S 1) q j)) (S 1) = pk16 (rw_ g ((prm (S 1) (noS S)).getD q [])) (S 1) from (pk16_c (hF q hq)).symm]
      exact this
  · rw [c4.1 r i (by omega), b3 r i (by omega), f2 r i (by omega)]
  · rw [c4.2 r hr, b4, f22]
/-- all tricks of heaps ahead of (c, i) have their ways -/
def GW (S F0 : Nat → Nat) (X : Nat → Nat → Nat → Nat) (c i : Nat) (m : rn_Mem) : Prop := ∀ d j, d < S 1 → j < S (12 + d) / S 1 → (d < c ∨ (d = c ∧ j < i)) → TK S d (70 + 8 * (F0 d + j)) (X d j) m
def mmS (S : Nat → Nat) (c : Nat) : Nat := S (12 + c) / S 1
def F0S (S : Nat → Nat) (c : Nat) : Nat := fb_sm (mmS S) c
def TMm (S : Nat → Nat) (X : Nat → Nat → Nat → Nat) (m : rn_Mem) : Prop := (∀ c, c < S 1 → m.1 55 c = nI (mmS S c)) ∧ ∀ c i j, c < S 1 → i < mmS S c → j < S 1 → m.1 56 (12 * c + S 1 * i + j) = nI (X c i j)
theorem TMm_k {S : Nat → Nat} {X : Nat → Nat → Nat → Nat} {m m2 : rn_Mem} (h : TMm S X m) (h1 : m2.1 55 = m.1 55) (h2 : m2.1 56 = m.1 56) : TMm S X m2 := by
  unfold TMm at *
  rw [h1, h2]
  exact h
/-- the table's sizes -/
def HZ (S : Nat → Nat) (X : Nat → Nat → Nat → Nat) : Prop := fb_sm (mmS S) (S 1) = S 2 ∧ ∀ c i j, c < S 1 → i < mmS S c → j < S 1 → X c i j < 16
theorem F0S_lt {S : Nat → Nat} (h : fb_sm (mmS S) (S 1) = S 2) {c : Nat} (hc : c < S 1) : F0S S c + mmS S c ≤ S 2 := by
  rw [← h]
  exact fb_sm_part (mmS S) hc
theorem F0S_mono {S : Nat → Nat} {c d : Nat} (h : c < d) : F0S S c + mmS S c ≤ F0S S d := fb_sm_part (mmS S) h
theorem gather_l69_sp {S : Nat → Nat} {X : Nat → Nat → Nat → Nat} (wg : WG S) (wc : WC S) (hH : HZ S X) {c : Nat} (hc : c < S 1) : ∀ (s i nf : Nat) (m : rn_Mem), i + s = mmS S c → s + 400 < nf → GMm S m → TMm S X m → GW S (F0S S) X c i m → ∃ m2, se_gather_l69 (nI (askS S)) (nI c) nf (nI (F0S S c + i)) (nI i) m = some (nI (F0S S c + mmS S c), m2) ∧ GW S (F0S S) X c (mmS S c) m2 ∧ (∀ r i, (r < 70 ∨ 101 < r) → m2.1 r i = m.1 r i) ∧ ∀ r, r < 70 ∨ 101 < r → m2.2 r = m.2 r := by
  obtain ⟨w1, w2, w3, w4, w5, w6, w7, w8, w9, w10, w11⟩ := wg
  have wg : WG S := ⟨w1, w2, w3, w4, w5, w6, w7, w8, w9, w10, w11⟩
  have hF := F0S_lt hH.1 hc
  intro s
  induction s with
  | zero =>
    intro i nf m e hnf hG hT hW
    obtain ⟨nf, rfl⟩ : ∃ e, nf = e + 1 := ⟨nf - 1, by omega⟩
    obtain rfl : i = mmS S c := by omega
    refine ⟨m, ?_, hW, fun _ _ _ => rfl, fun _ _ => rfl⟩
    rw [se_gather_l69, if_pos ((in_n (by omega)).mpr (by omega)), nI_n (by omega), hT.1 c hc, if_neg (by rw [nI_ltI (by omega) (by omega)]; omega)]
  | succ s ih =>
    intro i nf m e hnf hG hT hW
    obtain ⟨nf, rfl⟩ : ∃ e, nf = e + 1 := ⟨nf - 1, by omega⟩
    have hmul : S 1 * i + S 1 ≤ S 1 * mmS S c := kn (by omega)
    have hmul2 : S 1 * mmS S c ≤ S 1 * S 2 := Nat.mul_le_mul_left _ (by omega)
    have hfs : 12 * c + S 1 * i + S 1 ≤ 48 := by omega
    obtain ⟨m2, m3, m4, p1, p2, p3, p4, p5, p6, p7⟩ := gather_one (S := S) (c := c) (p := 70 + 8 * (F0S S c + i)) (fs := 12 * c + S 1 * i) (nf := nf) (g := X c i) (m := m) (a1 := nI (askS S)) (a2 := nI (F0S S c + i)) (a3 := nI c) (a4 := nI i) (by omega) wg wc hc (by omega) hfs (fun j hj => hH.2 c i j hc (by omega) hj) hG (fun j hj => hT.2 c i j hc (by omega) hj)
    have e4 : ∀ r, r < 70 → m4.1 r = m.1 r := fun r hr => by funext j; exact p6 r j (by omega)
    have hG4 : GMm S m4 := by
      refine ⟨by rw [e4 52 (by omega)]; exact hG.1, hG.2.1, ?_⟩
      unfold CLm
      rw [e4 57 (by omega), e4 (57 + 1) (by omega), e4 (57 + 2) (by omega), e4 (57 + 3) (by omega), e4 (57 + 4) (by omega)]
      exact hG.2.2
    obtain ⟨m5, q1, q2, q3, q4⟩ := ih (i + 1) nf m4 (by omega) (by omega) hG4 (TMm_k hT (e4 55 (by omega)) (e4 56 (by omega))) (by
      intro d j hd hj hdj
      by_cases z : d = c ∧ j = i
      · rw [z.1, z.2]; exact p5
      · have hold := hW d j hd hj (by omega)
        have hne : F0S S d + j ≠ F0S S c + i := by
          rcases hdj with h | h
          · have := F0S_mono (S := S) h
            have hj' : j < mmS S d := hj
            omega
          · rw [h.1]; omega
        exact TK_kp hold (fun r h1 h2 => by funext x; exact p6 r x (by omega)) (p7 _ (by omega)))
    refine ⟨m5, ?_, q2, fun r x hr => by rw [q3 r x hr, p6 r x (by omega)], fun r hr => by rw [q4 r hr, p7 r (by omega)]⟩
    rw [se_gather_l69, if_pos ((in_n (by omega)).mpr (by omega)), nI_n (by omega), hT.1 c hc, if_pos (by rw [nI_ltI (by omega) (by omega)]; omega), if_pos (by rw [k4, nI_ltI (by omega) (by omega)]; omega), if_pos ((in_n (by omega)).mpr (by omega)), nI_n (by omega), p1]
    rw [Option.bind_some, Option.bind_some, p4, k12, pk_mul, pk_mul, nI_add, show c * 12 + i * S 1 = 12 * c + S 1 * i by rw [Nat.mul_comm c 12, Nat.mul_comm i (S 1)], p2, Option.bind_some, p3, Option.bind_some, Option.bind_some, Option.bind_some, nI_1, nI_1]
    exact q1
theorem gather_l33_sp {S : Nat → Nat} {X : Nat → Nat → Nat → Nat} (wg : WG S) (wc : WC S) (hH : HZ S X) : ∀ (s c nf : Nat) (m : rn_Mem), c + s = S 1 → s + 500 < nf → GMm S m → TMm S X m → GW S (F0S S) X c 0 m → (∀ d, d < c → m.1 63 d = nI (F0S S d) ∧ m.1 64 d = nI (mmS S d)) → ∃ m2, se_gather_l33 (nI (askS S)) nf (nI (F0S S c)) (nI c) m = some m2 ∧ GW S (F0S S) X (S 1) 0 m2 ∧ (∀ d, d < S 1 → m2.1 63 d = nI (F0S S d) ∧ m2.1 64 d = nI (mmS S d)) ∧ (∀ r i, ¬ (r = 63 ∨ r = 64 ∨ (70 ≤ r ∧ r ≤ 101)) → m2.1 r i = m.1 r i) ∧ ∀ r, r < 70 ∨ 101 < r → m2.2 r = m.2 r := by
  obtain ⟨w1, w2, w3, w4, w5, w6, w7, w8, w9, w10, w11⟩ := wg
  have wg : WG S := ⟨w1, w2, w3, w4, w5, w6, w7, w8, w9, w10, w11⟩
  intro s
  induction s with
  | zero =>
    intro c nf m e hnf hG hT hW h63
    obtain ⟨nf, rfl⟩ : ∃ e, nf = e + 1 := ⟨nf - 1, by omega⟩
    obtain rfl : c = S 1 := by omega
    refine ⟨m, ?_, hW, h63, fun _ _ _ => rfl, fun _ _ => rfl⟩
    rw [se_gather_l33, (hG.1.2 hG.2.1).1, if_neg (by rw [nI_ltI (by omega) (by omega)]; omega)]
  | succ s ih =>
    intro c nf m e hnf hG hT hW h63
    obtain ⟨nf, rfl⟩ : ∃ e, nf = e + 1 := ⟨nf - 1, by omega⟩
    have hc : c < S 1 := by omega
    have hin : rn_in (nI c) 4 = true := (in_n (by omega)).mpr (by omega)
    have hF := F0S_lt hH.1 hc
    generalize hm1 : rm_i (rm_i m 63 c (nI (F0S S c))) 64 c (nI (mmS S c)) = m1
    have f1 : ∀ r i, ¬ ((r = 63 ∨ r = 64) ∧ i = c) → m1.1 r i = m.1 r i := by
      intro r i hr
      rw [← hm1, mi_get, if_neg (by omega), mi_get, if_neg (by omega)]
    have f12 : m1.2 = m.2 := by rw [← hm1]; rfl
    have e1 : ∀ r, r ≠ 63 → r ≠ 64 → m1.1 r = m.1 r := fun r h1 h2 => by funext i; exact f1 r i (by omega)
    have hG1 : GMm S m1 := by
      refine ⟨by rw [e1 52 (by omega) (by omega)]; exact hG.1, hG.2.1, ?_⟩
      unfold CLm
      rw [e1 57 (by omega) (by omega), e1 (57 + 1) (by omega) (by omega), e1 (57 + 2) (by omega) (by omega), e1 (57 + 3) (by omega) (by omega), e1 (57 + 4) (by omega) (by omega)]
      exact hG.2.2
    obtain ⟨m2, q1, q2, q3, q4⟩ := gather_l69_sp wg wc hH hc (mmS S c) 0 nf m1 (by omega) (by omega) hG1 (TMm_k hT (e1 55 (by omega) (by omega)) (e1 56 (by omega) (by omega))) (fun d j hd hj hdj => TK_kp (hW d j hd hj hdj) (fun r h1 h2 => e1 r (by omega) (by omega)) (by rw [f12]))
    have e2 : ∀ r, r < 70 → m2.1 r = m1.1 r := fun r hr => by funext i; exact q3 r i (Or.inl hr)
    have hG2 : GMm S m2 := by
      refine ⟨by rw [e2 52 (by omega)]; exact hG1.1, hG1.2.1, ?_⟩
      unfold CLm
      rw [e2 57 (by omega), e2 (57 + 1) (by omega), e2 (57 + 2) (by omega), e2 (57 + 3) (by omega), e2 (57 + 4) (by omega)]
      exact hG1.2.2
    have hFs : F0S S (c + 1) = F0S S c + mmS S c := rfl
    obtain ⟨m3, r1, r2, r3, r4, r5⟩ := ih (c + 1) nf m2 (by omega) (by omega) hG2 (TMm_k hT (by rw [e2 55 (by omega), e1 55 (by omega) (by omega)]) (by rw [e2 56 (by omega), e1 56 (by omega) (by omega)])) (fun d j hd hj hdj => q2 d j hd hj (by
      have hj' : j < mmS S d := hj
      rcases hdj with h | h
      · by_cases z : d = c
        · right; rw [z] at hj' ⊢; exact ⟨rfl, hj'⟩
        · left; omega
      · omega)) (fun d hd => by
      rw [e2 63 (by omega), e2 64 (by omega)]
      by_cases z : d = c
      · rw [z, ← hm1, mi_get, if_neg (by omega), mi_get, if_pos ⟨rfl, rfl⟩, mi_get, if_pos ⟨rfl, rfl⟩]
        exact ⟨rfl, rfl⟩
      · rw [f1 63 d (by omega), f1 64 d (by omega)]; exact h63 d (by omega))
    refine ⟨m3, ?_, r2, r3, fun r i hr => by rw [r4 r i hr, q3 r i (by omega), f1 r i (by omega)], fun r hr => by rw [r5 r hr, q4 r hr, f12]⟩
    have e55 : (rm_i m 63 c (nI (F0S S c))).1 55 c = nI (mmS S c) := by rw [mi_get, if_neg (by omega)]; exact hT.1 c hc
    rw [se_gather_l33, (hG.1.2 hG.2.1).1, if_pos (by rw [nI_ltI (by omega) (by omega)]; exact hc), if_pos hin, nI_n (by omega), Option.bind_some, if_pos hin, if_pos hin, e55, hm1, Option.bind_some, k0, show se_gather_l69 (nI (askS S)) (nI c) nf (nI (F0S S c)) (nI 0) m1 = some (nI (F0S S c + mmS S c), m2) from q1, Option.bind_some]
    show (some (nI c + 1)).bind _ = _
    rw [Option.bind_some, nI_1]
    exact r1
