/-! THE REFERENCE'S SEARCH: all orders of the tricks, from the last one back -/
def OKQ (S : Nat → Nat) (X : Nat → Nat → Nat → Nat) (w : Nat → Nat) (b : Nat) (p : Nat → Nat) : Prop := ∀ j, j < S 2 → p j < noS S ∧ okR S X w b j (p j) = true
def dn (m : rn_Mem) : Prop := ¬ m.1 115 13 = 0 ∧ 0 < lg_cmp (m.2 115 14) 0
theorem done_n {nf : Nat} {m : rn_Mem} (h : ¬ dn m) : mo_isDone nf m = some (0, m) := by
  rw [mo_isDone]
  by_cases y : m.1 115 13 = 0
  · rw [if_pos y]
  · rw [if_neg y, if_neg (fun t => h ⟨y, t⟩)]
theorem done_y {nf : Nat} {m : rn_Mem} (h : dn m) : mo_isDone nf m = some (1, m) := by rw [mo_isDone, if_neg h.1, if_pos h.2]
/-- what the going back leaves alone -/
def Kgb (m m2 : rn_Mem) : Prop := (∀ p, p ≠ 115 → ¬ (120 ≤ p ∧ p ≤ 124) → ¬ (133 ≤ p ∧ p ≤ 136) → m2.1 p = m.1 p) ∧ (∀ i, i ≠ 15 → m2.1 115 i = m.1 115 i) ∧ ∀ p i, ¬ (p = 115 ∧ i = 14) → m2.2 p i = m.2 p i
theorem Kgb.rf {m : rn_Mem} : Kgb m m := ⟨fun _ _ _ _ => rfl, fun _ _ => rfl, fun _ _ _ => rfl⟩
theorem Kgb.tr {m m1 m2 : rn_Mem} (h : Kgb m m1) (h2 : Kgb m1 m2) : Kgb m m2 := ⟨fun p a b c => by rw [h2.1 p a b c, h.1 p a b c], fun i a => by rw [h2.2.1 i a, h.2.1 i a], fun p i a => by rw [h2.2.2 p i a, h.2.2 p i a]⟩
/-- the findings stay -/
def Fr (m m2 : rn_Mem) : Prop := m2.2 = m.2 ∧ m2.1 115 = m.1 115 ∧ ∀ p, 120 ≤ p → p ≤ 124 → m2.1 p = m.1 p
theorem Kly.g {m m2 : rn_Mem} (h : Kly m m2) : Kgb m m2 ∧ Fr m m2 := ⟨⟨fun p h1 h2 h3 => h.2 p (by omega) (by omega) (by omega), fun i hi => by rw [h.2 115 (by omega) (by omega) (by omega)], fun p i _ => by rw [h.1]⟩, h.1, h.2 115 (by omega) (by omega) (by omega), fun p h1 h2 => h.2 p (by omega) (by omega) (by omega)⟩
theorem K133 {m : rn_Mem} {i : Nat} {x : Int32} : Kgb m (rm_i m 133 i x) ∧ Fr m (rm_i m 133 i x) := by
  have h : ∀ p, p ≠ 133 → (rm_i m 133 i x).1 p = m.1 p := fun p hp => by funext j; rw [mi_get, if_neg (fun t => hp t.1)]
  exact ⟨⟨fun p h1 h2 h3 => h p (by omega), fun i hi => by rw [h 115 (by omega)], fun p i _ => by rw [mi_2]⟩, mi_2 _ _ _ _, h 115 (by omega), fun p h1 h2 => h p (by omega)⟩
theorem GB0_g {S : Nat → Nat} {X : Nat → Nat → Nat → Nat} {w : Nat → Nat} {b M pc : Nat} {cn : Bool} {m m2 : rn_Mem} (h : GB0 S X w b M cn pc m) (hk : Kgb m m2) : GB0 S X w b M cn pc m2 := GB0_k h (fun p hp => hk.1 p (by omega) (by omega) (by omega)) (fun i hi => hk.2.1 i (by omega))
def BBd : Nat := 2 ^ 62
/-- how a run of the search keeps what it finds -/
def HK {ι : Type} (S : Nat → Nat) (X : Nat → Nat → Nat → Nat) (w : Nat → Nat) (b M : Nat) (cn : Bool) (pc : Nat) (E : rn_Mem → Prop) (J : rn_Mem → Nat → Prop) (Tm : ι → rn_Mem → Prop) (Bq : ι → (Nat → Nat) → Prop) (Wq : (Nat → Nat) → Nat) : Prop :=
  (∀ m m2, Kgb m m2 → E m → E m2) ∧ (∀ m m2 n, Fr m m2 → J m n → J m2 n ∧ ∀ i, Tm i m2 ↔ Tm i m) ∧
  (∀ m n k q, J m n → k < S 2 → (∀ j, k ≤ j → j < S 2 → q j < noS S ∧ okR S X w b j (q j) = true) → ¬ LTp S X w b M cn pc k q (m.1 115 15) → ∀ p, OKQ S X w b p → (∀ j, k ≤ j → p j = q j) → (∀ i, Bq i p → Tm i m) ∧ Wq p = 0) ∧
  (∀ m n, J m n → dn m → ∀ p, OKQ S X w b p → (∀ i, Bq i p → Tm i m) ∧ Wq p = 0) ∧
  (∀ m n q nf, 100 < nf → E m → J m n → GB0 S X w b M cn pc m → TS S X w b 0 q m → (∀ k, k < S 2 → LTp S X w b M cn pc k q (-1)) → LTp S X w b M cn pc 0 q (m.1 115 15) → ¬ dn m → n + Wq q < BBd → ∃ m2, mo_keepPlay nf m = some m2 ∧ Kgb m m2 ∧ (∀ p, 133 ≤ p → p ≤ 136 → m2.1 p = m.1 p) ∧ J m2 (n + Wq q) ∧ ∀ i, Tm i m2 ↔ Tm i m ∨ Bq i q)
def sb : Nat → Nat
  | 0 => 1
  | k + 1 => 24 * sb k + 2
theorem LTp_w {S : Nat → Nat} {X : Nat → Nat → Nat → Nat} {w : Nat → Nat} {b M : Nat} {cn : Bool} {pc k : Nat} {q : Nat → Nat} {few : Int32} (h : LTp S X w b M cn pc k q few) : LTp S X w b M cn pc k q (-1) := by
  refine ⟨?_, h.2⟩
  have h1 := h.1
  cases cn with
  | false => exact h1
  | true =>
    rw [if_pos (show true = true from rfl)] at h1 ⊢
    exact ⟨h1.1, Or.inl (by decide)⟩
theorem CTQ_a {S : Nat → Nat} {X : Nat → Nat → Nat → Nat} {w : Nat → Nat} {b M k : Nat} {q p : Nat → Nat} (hk : k < S 2) (h : ∀ j, k ≤ j → q j = p j) (hc : CTQ S X w b M q k) : CTQ S X w b M p k := by
  unfold CTQ plQ at hc ⊢
  rw [← suQ_a (q := q) (p := p) fun j hj => h j (by omega), ← xcQ_k (q := q) (p := p) (h k (Nat.le_refl _))]
  exact hc
theorem LTp_a {S : Nat → Nat} {X : Nat → Nat → Nat → Nat} {w : Nat → Nat} {b M : Nat} {cn : Bool} {pc k : Nat} {q p : Nat → Nat} {few : Int32} (hk : k < S 2) (h : ∀ j, k ≤ j → q j = p j) (hl : LTp S X w b M cn pc k q few) : LTp S X w b M cn pc k p few := by
  refine ⟨?_, CTQ_a hk h hl.2⟩
  have h1 := hl.1
  rw [wrQ_a (q := q) (p := p) fun j hj => h j (by omega), nbQ_a (q := q) (p := p) fun j hj => h j (by omega)] at h1
  exact h1
theorem TS_k {S : Nat → Nat} {X : Nat → Nat → Nat → Nat} {w : Nat → Nat} {b k : Nat} {q : Nat → Nat} {m m2 : rn_Mem} (h : TS S X w b k q m) (h1 : ∀ j, k ≤ j → j < S 2 → m2.1 133 j = m.1 133 j) (h2 : ∀ p, 134 ≤ p → p ≤ 136 → m2.1 p = m.1 p) : TS S X w b k q m2 := by
  refine ⟨fun j a c => ?_, fun j a c => ?_⟩
  · obtain ⟨⟨u1, u2, u3⟩, u4⟩ := h.1 j a c
    rw [h1 j a c, h2 136 (by omega) (by omega)]
    exact ⟨⟨u1, u2, u3⟩, u4⟩
  · rw [h2 134 (by omega) (by omega), h2 135 (by omega) (by omega)]
    exact h.2 j a c
/-- lower tricks leave the higher ones -/
theorem TS_u {S : Nat → Nat} {X : Nat → Nat → Nat → Nat} {w : Nat → Nat} {b k l : Nat} {q p : Nat → Nat} {m : rn_Mem} (h : TS S X w b k p m) (hl : k ≤ l) (hq : ∀ j, l ≤ j → p j = q j) : TS S X w b l q m := by
  refine ⟨fun j a c => ?_, fun j a c => ?_⟩
  · rw [← hq j a, ← xcQ_k (q := p) (p := q) (hq j a)]
    exact h.1 j (by omega) c
  · rw [← suQ_a (q := p) (p := q) fun i hi => hq i (by omega), ← nbQ_a (q := p) (p := q) fun i hi => hq i (by omega)]
    exact h.2 j (by omega) c
noncomputable def phi (S : Nat → Nat) (X : Nat → Nat → Nat → Nat) (w : Nat → Nat) (b : Nat) (Wq : (Nat → Nat) → Nat) (p : Nat → Nat) : Nat := ifc (OKQ S X w b p) (Wq p) 0
theorem NS_z {n k : Nat} {q : Nat → Nat} {φ : (Nat → Nat) → Nat} (h : ∀ p, (∀ j, k ≤ j → p j = q j) → φ p = 0) : NS (fun a b => a + b) 0 n k q φ = 0 := (NS_cong (ψ := fun _ => 0) fun p h1 _ => h p h1).trans (NS_e CM_nat)
def LvE {ι : Type} (S : Nat → Nat) (X : Nat → Nat → Nat → Nat) (w : Nat → Nat) (b M : Nat) (cn : Bool) (pc : Nat) (E : rn_Mem → Prop) (J : rn_Mem → Nat → Prop) (Tm : ι → rn_Mem → Prop) (Bq : ι → (Nat → Nat) → Prop) (Wq : (Nat → Nat) → Nat) (k : Nat) (q : Nat → Nat) (D : (Nat → Nat) → Prop) (m m2 : rn_Mem) (n2 : Nat) : Prop := J m2 n2 ∧ TS S X w b (k + 1) q m2 ∧ Kgb m m2 ∧ ∀ i, Tm i m2 ↔ Tm i m ∨ ∃ p, OKQ S X w b p ∧ (∀ j, k < j → p j = q j) ∧ D p ∧ Bq i p
noncomputable def lvS (S : Nat → Nat) (X : Nat → Nat → Nat → Nat) (w : Nat → Nat) (b : Nat) (Wq : (Nat → Nat) → Nat) (k : Nat) (q : Nat → Nat) (c : Nat) : Nat := NS (fun a b => a + b) 0 (noS S) k (fu q k c) (phi S X w b Wq)
def LvH {ι : Type} (S : Nat → Nat) (X : Nat → Nat → Nat → Nat) (w : Nat → Nat) (b M : Nat) (cn : Bool) (pc : Nat) (E : rn_Mem → Prop) (J : rn_Mem → Nat → Prop) (Tm : ι → rn_Mem → Prop) (Bq : ι → (Nat → Nat) → Prop) (Wq : (Nat → Nat) → Nat) (k Y : Nat) (q : Nat → Nat) (m : rn_Mem) (n : Nat) : Prop := n + gs (fun a b => a + b) 0 (lvS S X w b Wq k q) (noS S) < BBd + gs (fun a b => a + b) 0 (lvS S X w b Wq k q) Y ∧ k < S 2 ∧ E m ∧ J m n ∧ GB0 S X w b M cn pc m ∧ TS S X w b (k + 1) q m ∧ m.1 133 k = nI (fb_ct (okR S X w b k) Y) ∧ ∀ j, k < j → j < S 2 → LTp S X w b M cn pc j q (-1)
def ONE {ι : Type} (S : Nat → Nat) (X : Nat → Nat → Nat → Nat) (w : Nat → Nat) (b M : Nat) (cn : Bool) (pc : Nat) (E : rn_Mem → Prop) (J : rn_Mem → Nat → Prop) (Tm : ι → rn_Mem → Prop) (Bq : ι → (Nat → Nat) → Prop) (Wq : (Nat → Nat) → Nat) (k : Nat) : Prop := ∀ (Y N n : Nat) (m : rn_Mem) (q : Nat → Nat), sb k + 150 < N → n + lvS S X w b Wq k q Y < BBd → Y < noS S → okR S X w b k Y = true → LvH S X w b M cn pc E J Tm Bq Wq k Y q m n → ¬ dn m → ∃ (u : Nat) (m2 : rn_Mem) (a n2 : Nat), N ≤ u + sb k ∧ mo_goBack_l57 N (nI k) m = mo_goBack_l57 u (nI a) m2 ∧ a < S 2 ∧ (dn m2 ∨ (a = k ∧ m2.1 133 k = nI (fb_ct (okR S X w b k) (Y + 1)))) ∧ LvE S X w b M cn pc E J Tm Bq Wq k q (fun p => p k = Y) m m2 n2 ∧ n2 = n + lvS S X w b Wq k q Y
def ALL {ι : Type} (S : Nat → Nat) (X : Nat → Nat → Nat → Nat) (w : Nat → Nat) (b M : Nat) (cn : Bool) (pc : Nat) (E : rn_Mem → Prop) (J : rn_Mem → Nat → Prop) (Tm : ι → rn_Mem → Prop) (Bq : ι → (Nat → Nat) → Prop) (Wq : (Nat → Nat) → Nat) (k : Nat) : Prop := ∀ (r Y N n : Nat) (m : rn_Mem) (q : Nat → Nat), r * sb k + 150 < N → Y + r = noS S → LvH S X w b M cn pc E J Tm Bq Wq k Y q m n → ∃ (u : Nat) (m2 : rn_Mem) (a n2 : Nat), N ≤ u + r * sb k ∧ mo_goBack_l57 N (nI k) m = mo_goBack_l57 u (nI a) m2 ∧ a < S 2 ∧ (dn m2 ∨ (a = k ∧ m2.1 133 k = nI (gR S X w b k))) ∧ LvE S X w b M cn pc E J Tm Bq Wq k q (fun p => Y ≤ p k) m m2 n2 ∧ n2 + gs (fun a b => a + b) 0 (lvS S X w b Wq k q) Y = n + gs (fun a b => a + b) 0 (lvS S X w b Wq k q) (noS S)
theorem lvS_z {S : Nat → Nat} {X : Nat → Nat → Nat → Nat} {w : Nat → Nat} {b : Nat} {Wq : (Nat → Nat) → Nat} {k c : Nat} {q : Nat → Nat} (h : ∀ p, OKQ S X w b p → (∀ j, k ≤ j → p j = fu q k c j) → Wq p = 0) : lvS S X w b Wq k q c = 0 := by
  unfold lvS
  refine NS_z fun p hp => ?_
  unfold phi
  by_cases y : OKQ S X w b p
  · rw [ifc_p y]; exact h p y hp
  · rw [ifc_n y]
theorem gs_zero {f : Nat → Nat} {a d : Nat} (h : ∀ i, a ≤ i → i < a + d → f i = 0) : gs (fun a b => a + b) 0 f (a + d) = gs (fun a b => a + b) 0 f a := by
  rw [gs_add CM_nat, gs_e CM_nat fun i hi => h (a + i) (by omega) (by omega)]
  exact Nat.add_zero _
theorem gs_mo {f : Nat → Nat} {a c : Nat} (h : a ≤ c) : gs (fun a b => a + b) 0 f a ≤ gs (fun a b => a + b) 0 f c := by
  obtain ⟨d, rfl⟩ : ∃ d, c = a + d := ⟨c - a, by omega⟩
  rw [gs_add CM_nat]
  show _ ≤ _ + _
  omega
theorem all_of_one {ι : Type} {S : Nat → Nat} {X : Nat → Nat → Nat → Nat} {w : Nat → Nat} {b M : Nat} {cn : Bool} {pc : Nat} {E : rn_Mem → Prop} {J : rn_Mem → Nat → Prop} {Tm : ι → rn_Mem → Prop} {Bq : ι → (Nat → Nat) → Prop} {Wq : (Nat → Nat) → Nat} {k : Nat} (wg : WG S) (wc : WC S) (hH : HZ S X) (hD : DX S X) (hX : SX S X) (hF : FT S w) (hb : b < S 1) (hM : M < 2 ^ 31) (hpc : pc ≤ 4) (K : HK S X w b M cn pc E J Tm Bq Wq) (h1 : ONE S X w b M cn pc E J Tm Bq Wq k) : ALL S X w b M cn pc E J Tm Bq Wq k := by
  have w1 : 2 ≤ S 1 := wg.1
  have w2 : S 1 ≤ 4 := wg.2.1
  have w4 : S 2 ≤ 4 := wg.2.2.2.1
  have h24 := (noS_le w1 w2).2
  obtain ⟨K0, K1, K2, K3, K4⟩ := K
  intro r
  induction r with
  | zero =>
    intro Y N n m q hN e H
    obtain rfl : Y = noS S := by omega
    obtain ⟨hB, hk, hE, hJ, hG, hT, h133, hL⟩ := H
    refine ⟨N, m, k, n, by omega, rfl, hk, Or.inr ⟨rfl, h133⟩, ⟨hJ, hT, Kgb.rf, fun i => ⟨Or.inl, fun h => h.elim id fun ⟨p, p1, _, p3, _⟩ => ?_⟩⟩, rfl⟩
    exact absurd (p1 k hk).1 (by omega)
  | succ r ih =>
    intro Y N n m q hN e H
    rw [Nat.add_mul, Nat.one_mul] at hN
    rw [Nat.add_mul, Nat.one_mul]
    have H' := H
    obtain ⟨hB, hk, hE, hJ, hG, hT, h133, hL⟩ := H
    by_cases yd : dn m
    · refine ⟨N, m, k, n, by omega, rfl, hk, Or.inl yd, ⟨hJ, hT, Kgb.rf, fun i => ⟨Or.inl, fun h => h.elim id fun ⟨p, p1, _, _, p4⟩ => (K3 m n hJ yd p p1).1 i p4⟩⟩, ?_⟩
      rw [show noS S = Y + (r + 1) by omega, gs_zero fun i _ _ => lvS_z fun p p1 _ => (K3 m n hJ yd p p1).2]
    have hmo := gs_mo (f := lvS S X w b Wq k q) (show Y + 1 ≤ noS S by omega)
    rw [gs] at hmo
    by_cases yo : okR S X w b k Y = true
    · obtain ⟨u, m1, a, n1, u1, u2, u3, u4, ⟨e1, e2, e3, e4⟩, u6⟩ := h1 Y N n m q (by omega) (by omega) (by omega) yo H' yd
      by_cases yd2 : dn m1
      · refine ⟨u, m1, a, n1, by omega, u2, u3, Or.inl yd2, ⟨e1, e2, e3, fun i => ?_⟩, ?_⟩
        · rw [e4 i]
          constructor
          · exact fun h => h.elim Or.inl fun ⟨p, p1, p2, p3, p4⟩ => Or.inr ⟨p, p1, p2, by omega, p4⟩
          · rintro (h | ⟨p, p1, p2, p3, p4⟩)
            · exact Or.inl h
            · exact (e4 i).mp ((K3 m1 n1 e1 yd2 p p1).1 i p4)
        · rw [show noS S = (Y + 1) + r by omega, gs_zero (f := lvS S X w b Wq k q) fun i _ _ => lvS_z fun p p1 _ => (K3 m1 n1 e1 yd2 p p1).2, gs, u6]
          omega
      obtain ⟨rfl, u5⟩ := u4.resolve_left yd2
      have H1 : LvH S X w b M cn pc E J Tm Bq Wq a (Y + 1) q m1 n1 := ⟨by rw [gs, u6]; omega, hk, K0 m m1 e3 hE, e1, GB0_g hG e3, e2, u5, hL⟩
      obtain ⟨v, m2, a2, n2, v1, v2, v3, v4, ⟨f1, f2, f3, f4⟩, v6⟩ := ih (Y + 1) u n1 m1 q (by omega) (by omega) H1
      refine ⟨v, m2, a2, n2, by omega, by rw [u2]; exact v2, v3, v4, ⟨f1, f2, e3.tr f3, fun i => ?_⟩, ?_⟩
      · rw [f4 i, e4 i]
        constructor
        · rintro ((h | ⟨p, p1, p2, p3, p4⟩) | ⟨p, p1, p2, p3, p4⟩)
          · exact Or.inl h
          · exact Or.inr ⟨p, p1, p2, by omega, p4⟩
          · exact Or.inr ⟨p, p1, p2, by omega, p4⟩
        · rintro (h | ⟨p, p1, p2, p3, p4⟩)
          · exact Or.inl (Or.inl h)
          · by_cases z : p a = Y
            · exact Or.inl (Or.inr ⟨p, p1, p2, z, p4⟩)
            · exact Or.inr ⟨p, p1, p2, by omega, p4⟩
      · rw [gs, u6] at v6
        omega
    · have hs := fb_ct_succ (okR S X w b k) Y
      rw [if_neg yo, Nat.add_zero] at hs
      have H1 : LvH S X w b M cn pc E J Tm Bq Wq k (Y + 1) q m n := ⟨by rw [gs, lvS_z fun p p1 p2 => absurd (p1 k hk).2 (by rw [p2 k (Nat.le_refl _), fu_s]; exact yo)]; exact hB, hk, hE, hJ, hG, hT, by rw [hs]; exact h133, hL⟩
      obtain ⟨v, m2, a2, n2, v1, v2, v3, v4, ⟨f1, f2, f3, f4⟩, v6⟩ := ih (Y + 1) N n m q (by omega) (by omega) H1
      refine ⟨v, m2, a2, n2, by omega, v2, v3, v4, ⟨f1, f2, f3, fun i => ?_⟩, ?_⟩
      · rw [f4 i]
        constructor
        · exact fun h => h.elim Or.inl fun ⟨p, p1, p2, p3, p4⟩ => Or.inr ⟨p, p1, p2, by omega, p4⟩
        · rintro (h | ⟨p, p1, p2, p3, p4⟩)
          · exact Or.inl h
          · refine Or.inr ⟨p, p1, p2, ?_, p4⟩
            by_cases z : p k = Y
            · have := (p1 k hk).2
              rw [z] at this
              exact absurd this yo
            · omega
      · rw [gs, show lvS S X w b Wq k q Y = 0 from lvS_z fun p p1 p2 => absurd (p1 k hk).2 (by rw [p2 k (Nat.le_refl _), fu_s]; exact yo)] at v6
        exact v6
theorem one_lay {ι : Type} {S : Nat → Nat} {X : Nat → Nat → Nat → Nat} {w : Nat → Nat} {b M : Nat} {cn : Bool} {pc : Nat} {E : rn_Mem → Prop} {J : rn_Mem → Nat → Prop} {Tm : ι → rn_Mem → Prop} {Bq : ι → (Nat → Nat) → Prop} {Wq : (Nat → Nat) → Nat} {k Y nf n : Nat} {q : Nat → Nat} {m : rn_Mem} (hnf : 150 < nf) (wg : WG S) (wc : WC S) (hH : HZ S X) (hD : DX S X) (hX : SX S X) (hF : FT S w) (hb : b < S 1) (hM : M < 2 ^ 31) (hpc : pc ≤ 4) (K : HK S X w b M cn pc E J Tm Bq Wq) (hY : Y < noS S) (hok : okR S X w b k Y = true) (H : LvH S X w b M cn pc E J Tm Bq Wq k Y q m n) (hd : ¬ dn m) : ∃ (m25 : rn_Mem) (a : Bool), TS S X w b k (fu q k Y) m25 ∧ (a = true ↔ LTp S X w b M cn pc k (fu q k Y) (m.1 115 15)) ∧ Kly m m25 ∧ m25.1 133 k = nI (fb_ct (okR S X w b k) Y) ∧ mo_goBack_l57 (nf + 1) (nI k) m = (if a = true then if 0 < k then mo_goBack_l57 nf (nI (k - 1)) (rm_i m25 133 (k - 1) 0) else (mo_keepPlay nf m25).bind fun m36 => mo_goBack_l57 nf (nI k) (rm_i m36 133 0 (m36.1 133 0 + 1)) else mo_goBack_l57 nf (nI k) (rm_i m25 133 k (nI (fb_ct (okR S X w b k) (Y + 1))))) := by
  have w1 : 2 ≤ S 1 := wg.1
  have w2 : S 1 ≤ 4 := wg.2.1
  have w4 : S 2 ≤ 4 := wg.2.2.2.1
  have h24 := (noS_le w1 w2).2
  obtain ⟨hB, hk, hE, hJ, hG, hT, h133, hL⟩ := H
  obtain ⟨m25, a, c1, c2, c3, c4⟩ := layT_sp (nf := nf) (by omega) wg wc hH hD hX hF hb hM hpc hk hG hT hY hok h133
  have z2 : m.1 116 2 = nI (S 2) := hG.1.1 2 (by omega) (by omega) (by omega) (by omega)
  have h132 : m.1 132 k = nI (gR S X w b k) := (hG.2.2.2.2.2.2 k hk).2.2.1
  have hs := fb_ct_succ (okR S X w b k) Y
  rw [if_pos hok] at hs
  have hlt : fb_ct (okR S X w b k) (Y + 1) ≤ gR S X w b k := fb_ct_mono _ hY
  have hg : gR S X w b k ≤ noS S := fb_ct_le _ _
  have e133 : m25.1 133 k = nI (fb_ct (okR S X w b k) Y) := by rw [c4.2 133 (by omega) (by omega) (by omega)]; exact h133
  have i4 : rn_in (nI k) 4 = true := (in_n (by omega)).mpr (by omega)
  refine ⟨m25, a, c2, c3, c4, e133, ?_⟩
  rw [mo_goBack_l57, z2, if_pos (by rw [nI_ltI (by omega) (by omega)]; exact hk), done_n hd, Option.bind_some]
  try simp only []
  rw [if_pos trivial, if_pos i4, if_pos i4, nI_n (by omega), h133, h132, if_neg (by rw [nI_eq (by omega) (by omega)]; omega), c1, Option.bind_some]
  try simp only []
  cases a with
  | false =>
    rw [if_pos (show (if false = true then (1 : Int32) else 0) = 0 by decide), if_neg (show ¬ false = true by decide), if_pos i4, if_pos i4, e133, nI_1, ← hs, Option.bind_some]
  | true =>
    rw [if_neg (show ¬ (if true = true then (1 : Int32) else 0) = 0 by decide), if_pos (show true = true from rfl)]
    by_cases y : 0 < k
    · obtain ⟨k', rfl⟩ : ∃ k', k = k' + 1 := ⟨k - 1, by omega⟩
      rw [if_pos (by rw [k0, nI_ltI (by omega) (by omega)]; exact y), if_pos y, pk_m1, Option.bind_some, if_pos ((in_n (by omega)).mpr (by omega)), nI_n (by omega), Option.bind_some]
      rfl
    · rw [if_neg (by rw [k0, nI_ltI (by omega) (by omega)]; exact y), if_neg y]
      rfl
theorem one_skip {ι : Type} {S : Nat → Nat} {X : Nat → Nat → Nat → Nat} {w : Nat → Nat} {b M : Nat} {cn : Bool} {pc : Nat} {E : rn_Mem → Prop} {J : rn_Mem → Nat → Prop} {Tm : ι → rn_Mem → Prop} {Bq : ι → (Nat → Nat) → Prop} {Wq : (Nat → Nat) → Nat} {k Y n : Nat} {q : Nat → Nat} {m m25 : rn_Mem} (K : HK S X w b M cn pc E J Tm Bq Wq) (hok : okR S X w b k Y = true) (hY : Y < noS S) (H : LvH S X w b M cn pc E J Tm Bq Wq k Y q m n) (c2 : TS S X w b k (fu q k Y) m25) (c4 : Kly m m25) (hn : ¬ LTp S X w b M cn pc k (fu q k Y) (m.1 115 15)) : LvE S X w b M cn pc E J Tm Bq Wq k q (fun p => p k = Y) m (rm_i m25 133 k (nI (fb_ct (okR S X w b k) (Y + 1)))) n ∧ n = n + lvS S X w b Wq k q Y := by
  obtain ⟨K0, K1, K2, K3, K4⟩ := K
  obtain ⟨hB, hk, hE, hJ, hG, hT, h133, hL⟩ := H
  obtain ⟨j1, j2⟩ := K1 m m25 n c4.g.2 hJ
  obtain ⟨i1, i2⟩ := K1 m25 _ n (K133 (i := k) (x := nI (fb_ct (okR S X w b k) (Y + 1)))).2 j1
  have hq2 : ∀ j, k ≤ j → j < S 2 → fu q k Y j < noS S ∧ okR S X w b j (fu q k Y j) = true := fun j h1 h2 => ⟨(c2.1 j h1 h2).1.1, (c2.1 j h1 h2).1.2.1⟩
  have hz := K2 m n k (fu q k Y) hJ hk hq2 hn
  refine ⟨⟨i1, ?_, c4.g.1.tr K133.1, fun i => ?_⟩, ?_⟩
  · refine TS_k (TS_u c2 (show k ≤ k + 1 by omega) fun j hj => fu_n (by omega)) (fun j h1 h2 => by rw [mi_get, if_neg (by omega)]) (fun p h1 h2 => by funext x; rw [mi_get, if_neg (by omega)])
  · rw [i2 i, j2 i]
    refine ⟨Or.inl, fun h => h.elim id fun ⟨p, p1, p2, p3, p4⟩ => (hz p p1 fun j hj => ?_).1 i p4⟩
    by_cases e : j = k
    · rw [e, fu_s]; exact p3
    · rw [fu_n e]; exact p2 j (by omega)
  · rw [lvS_z fun p p1 p2 => (hz p p1 p2).2]
    rfl
theorem one_zero {ι : Type} {S : Nat → Nat} {X : Nat → Nat → Nat → Nat} {w : Nat → Nat} {b M : Nat} {cn : Bool} {pc : Nat} {E : rn_Mem → Prop} {J : rn_Mem → Nat → Prop} {Tm : ι → rn_Mem → Prop} {Bq : ι → (Nat → Nat) → Prop} {Wq : (Nat → Nat) → Nat} (wg : WG S) (wc : WC S) (hH : HZ S X) (hD : DX S X) (hX : SX S X) (hF : FT S w) (hb : b < S 1) (hM : M < 2 ^ 31) (hpc : pc ≤ 4) (K : HK S X w b M cn pc E J Tm Bq Wq) : ONE S X w b M cn pc E J Tm Bq Wq 0 := by
  intro Y N n m q hN hBY hY hok H hd
  have hN' : 151 < N := hN
  obtain ⟨nf, rfl⟩ : ∃ nf, N = nf + 1 := ⟨N - 1, by omega⟩
  obtain ⟨m25, a, c2, c3, c4, e133, st⟩ := one_lay (nf := nf) (by omega) wg wc hH hD hX hF hb hM hpc K hY hok H hd
  have h24 := (noS_le wg.1 wg.2.1).2
  cases a with
  | false =>
    rw [if_neg (by decide)] at st
    obtain ⟨r1, r2⟩ := one_skip K hok hY H c2 c4 (fun t => absurd (c3.mpr t) (by decide))
    exact ⟨nf, _, 0, n, by show nf + 1 ≤ nf + 1; omega, st, H.2.1, Or.inr ⟨rfl, by rw [mi_get, if_pos ⟨rfl, rfl⟩]⟩, r1, r2⟩
  | true =>
    rw [if_pos (show true = true from rfl), if_neg (by omega)] at st
    obtain ⟨K0, K1, K2, K3, K4⟩ := K
    obtain ⟨hB, hk, hE, hJ, hG, hT, h133, hL⟩ := H
    obtain ⟨j1, j2⟩ := K1 m m25 n c4.g.2 hJ
    have hlt := c3.mp rfl
    obtain ⟨m36, d1, d2, d3, d4, d5⟩ := K4 m25 n (fu q 0 Y) nf (by omega) (K0 m m25 c4.g.1 hE) j1 (GB0_g hG c4.g.1) c2 (fun k hk => by
      by_cases e : k = 0
      · rw [e]; exact LTp_w hlt
      · exact LTp_a hk (fun j hj => by rw [fu_n (by omega)]) (hL k (by omega) hk)) (by rw [c4.g.2.2.1]; exact hlt) (fun t => hd (by unfold dn at t ⊢; rw [c4.g.2.2.1, c4.g.2.1] at t; exact t)) (by
      have hokq : OKQ S X w b (fu q 0 Y) := fun j hj => ⟨(c2.1 j (Nat.zero_le j) hj).1.1, (c2.1 j (Nat.zero_le j) hj).1.2.1⟩
      unfold lvS at hBY
      rw [NS] at hBY
      unfold phi at hBY
      rw [ifc_p hokq] at hBY
      exact hBY)
    have hs := fb_ct_succ (okR S X w b 0) Y
    rw [if_pos hok] at hs
    have e2 : m36.1 133 0 + 1 = nI (fb_ct (okR S X w b 0) (Y + 1)) := by rw [d3 133 (by omega) (by omega), e133, nI_1, hs]
    rw [d1, Option.bind_some, e2] at st
    obtain ⟨i1, i2⟩ := K1 m36 _ _ (K133 (i := 0) (x := nI (fb_ct (okR S X w b 0) (Y + 1)))).2 d4
    have hokq : OKQ S X w b (fu q 0 Y) := fun j hj => ⟨(c2.1 j (Nat.zero_le j) hj).1.1, (c2.1 j (Nat.zero_le j) hj).1.2.1⟩
    refine ⟨nf, _, 0, _, by show nf + 1 ≤ nf + 1; omega, st, hk, Or.inr ⟨rfl, by rw [mi_get, if_pos ⟨rfl, rfl⟩]⟩, ⟨i1, ?_, (c4.g.1.tr d2).tr K133.1, fun i => ?_⟩, ?_⟩
    · refine TS_k (TS_u (l := 1) c2 (by omega) fun j hj => fu_n (by omega)) (fun j h1 h2 => by rw [mi_get, if_neg (by omega), d3 133 (by omega) (by omega)]) (fun p h1 h2 => by funext x; rw [mi_get, if_neg (by omega), d3 p (by omega) (by omega)])
    · rw [i2 i, d5 i, j2 i]
      constructor
      · exact fun h => h.elim Or.inl fun h => Or.inr ⟨fu q 0 Y, hokq, fun j hj => fu_n (by omega), fu_s, h⟩
      · rintro (h | ⟨p, p1, p2, p3, p4⟩)
        · exact Or.inl h
        · obtain rfl : p = fu q 0 Y := funext fun j => by
            by_cases e : j = 0
            · rw [e, fu_s]; exact p3
            · rw [fu_n e]; exact p2 j (by omega)
          exact Or.inr p4
    · unfold lvS
      rw [NS]
      unfold phi
      rw [ifc_p hokq]
theorem one_succ {ι : Type} {S : Nat → Nat} {X : Nat → Nat → Nat → Nat} {w : Nat → Nat} {b M : Nat} {cn : Bool} {pc : Nat} {E : rn_Mem → Prop} {J : rn_Mem → Nat → Prop} {Tm : ι → rn_Mem → Prop} {Bq : ι → (Nat → Nat) → Prop} {Wq : (Nat → Nat) → Nat} {k : Nat} (wg : WG S) (wc : WC S) (hH : HZ S X) (hD : DX S X) (hX : SX S X) (hF : FT S w) (hb : b < S 1) (hM : M < 2 ^ 31) (hpc : pc ≤ 4) (K : HK S X w b M cn pc E J Tm Bq Wq) (hA : ALL S X w b M cn pc E J Tm Bq Wq k) : ONE S X w b M cn pc E J Tm Bq Wq (k + 1) := by
  intro Y N n m q hN hBY hY hok H hd
  rw [sb] at hN ⊢
  obtain ⟨nf, rfl⟩ : ∃ nf, N = nf + 1 := ⟨N - 1, by omega⟩
  obtain ⟨m25, a, c2, c3, c4, e133, st⟩ := one_lay (nf := nf) (by omega) wg wc hH hD hX hF hb hM hpc K hY hok H hd
  have w4 : S 2 ≤ 4 := wg.2.2.2.1
  have h24 := (noS_le wg.1 wg.2.1).2
  have hsb : noS S * sb k ≤ 24 * sb k := Nat.mul_le_mul_right _ h24
  cases a with
  | false =>
    rw [if_neg (by decide)] at st
    obtain ⟨r1, r2⟩ := one_skip K hok hY H c2 c4 (fun t => absurd (c3.mpr t) (by decide))
    exact ⟨nf, _, k + 1, n, by omega, st, H.2.1, Or.inr ⟨rfl, by rw [mi_get, if_pos ⟨rfl, rfl⟩]⟩, r1, r2⟩
  | true =>
    rw [if_pos (show true = true from rfl), if_pos (by omega), show k + 1 - 1 = k by omega] at st
    have K' := K
    obtain ⟨K0, K1, K2, K3, K4⟩ := K
    obtain ⟨hB, hk, hE, hJ, hG, hT, h133, hL⟩ := H
    obtain ⟨j1, j2⟩ := K1 m m25 n c4.g.2 hJ
    have hlt := c3.mp rfl
    generalize hm34 : rm_i m25 133 k 0 = m34 at st
    have k34 : Kgb m25 m34 ∧ Fr m25 m34 := by rw [← hm34]; exact K133
    obtain ⟨i1, i2⟩ := K1 m25 m34 n k34.2 j1
    have kg : Kgb m m34 := c4.g.1.tr k34.1
    have hT34 : TS S X w b (k + 1) (fu q (k + 1) Y) m34 := TS_k c2 (fun j h1 h2 => by rw [← hm34, mi_get, if_neg (by omega)]) (fun p h1 h2 => by funext x; rw [← hm34, mi_get, if_neg (by omega)])
    have H34 : LvH S X w b M cn pc E J Tm Bq Wq k 0 (fu q (k + 1) Y) m34 n := by
      have e1 : gs (fun a b => a + b) 0 (lvS S X w b Wq k (fu q (k + 1) Y)) (noS S) = lvS S X w b Wq (k + 1) q Y := rfl
      refine ⟨by rw [e1, gs, Nat.add_zero]; exact hBY, by omega, K0 m m34 kg hE, i1, GB0_g hG kg, hT34, by rw [← hm34, mi_get, if_pos ⟨rfl, rfl⟩]; rfl, fun j h1 h2 => ?_⟩
      by_cases e : j = k + 1
      · rw [e]; exact LTp_w hlt
      · exact LTp_a h2 (fun i hi => by rw [fu_n (by omega)]) (hL j (by omega) h2)
    obtain ⟨u, m3, a3, n3, u1, u2, u3, u4, ⟨e1, e2, e3, e4⟩, u6⟩ := hA (noS S) 0 nf n m34 (fu q (k + 1) Y) (by omega) (by omega) H34
    have hT3 : TS S X w b (k + 1 + 1) q m3 := TS_u e2 (by omega) fun j hj => fu_n (by omega)
    have hsum : n3 = n + lvS S X w b Wq (k + 1) q Y := by
      have e1 : gs (fun a b => a + b) 0 (lvS S X w b Wq k (fu q (k + 1) Y)) (noS S) = lvS S X w b Wq (k + 1) q Y := rfl
      rw [gs, Nat.add_zero, e1] at u6
      exact u6
    have hTm : ∀ i, Tm i m3 ↔ Tm i m ∨ ∃ p, OKQ S X w b p ∧ (∀ j, k + 1 < j → p j = q j) ∧ p (k + 1) = Y ∧ Bq i p := fun i => by
      rw [e4 i, i2 i, j2 i]
      constructor
      · rintro (h | ⟨p, p1, p2, p3, p4⟩)
        · exact Or.inl h
        · exact Or.inr ⟨p, p1, fun j hj => by rw [p2 j (by omega), fu_n (by omega)], by rw [p2 (k + 1) (by omega), fu_s], p4⟩
      · rintro (h | ⟨p, p1, p2, p3, p4⟩)
        · exact Or.inl h
        · refine Or.inr ⟨p, p1, fun j hj => ?_, Nat.zero_le _, p4⟩
          by_cases e : j = k + 1
          · rw [e, fu_s]; exact p3
          · rw [fu_n e]; exact p2 j (by omega)
    by_cases yd : dn m3
    · exact ⟨u, m3, a3, n3, by omega, by rw [st]; exact u2, u3, Or.inl yd, ⟨e1, hT3, kg.tr e3, hTm⟩, hsum⟩
    obtain ⟨rfl, u5⟩ := u4.resolve_left yd
    obtain ⟨u', rfl⟩ : ∃ u', u = u' + 1 := ⟨u - 1, by omega⟩
    have kg3 : Kgb m m3 := kg.tr e3
    have hG3 := GB0_g hG kg3
    have z2 : m3.1 116 2 = nI (S 2) := hG3.1.1 2 (by omega) (by omega) (by omega) (by omega)
    have h132 : m3.1 132 a3 = nI (gR S X w b a3) := (hG3.2.2.2.2.2.2 a3 (by omega)).2.2.1
    have e133' : m3.1 133 (a3 + 1) = nI (fb_ct (okR S X w b (a3 + 1)) Y) := by
      have := (e2.1 (a3 + 1) (Nat.le_refl _) hk).1.2.2
      rw [fu_s] at this
      exact this
    have hs := fb_ct_succ (okR S X w b (a3 + 1)) Y
    rw [if_pos hok] at hs
    have hstep : mo_goBack_l57 (u' + 1) (nI a3) m3 = mo_goBack_l57 u' (nI (a3 + 1)) (rm_i m3 133 (a3 + 1) (nI (fb_ct (okR S X w b (a3 + 1)) (Y + 1)))) := by
      rw [mo_goBack_l57, z2, if_pos (by rw [nI_ltI (by omega) (by omega)]; omega), done_n yd, Option.bind_some]
      try simp only []
      rw [if_pos trivial, if_pos ((in_n (by omega)).mpr (by omega)), if_pos ((in_n (by omega)).mpr (by omega)), nI_n (by omega), u5, h132, if_pos rfl, nI_1, Option.bind_some, z2, if_pos (by rw [nI_ltI (by omega) (by omega)]; exact hk), if_pos ((in_n (by omega)).mpr (by omega)), if_pos ((in_n (by omega)).mpr (by omega)), nI_n (by omega), e133', nI_1, ← hs, Option.bind_some]
    obtain ⟨x1, x2⟩ := K1 m3 _ _ (K133 (i := a3 + 1) (x := nI (fb_ct (okR S X w b (a3 + 1)) (Y + 1)))).2 e1
    refine ⟨u', _, a3 + 1, n3, by omega, by rw [st, u2]; exact hstep, hk, Or.inr ⟨rfl, by rw [mi_get, if_pos ⟨rfl, rfl⟩]⟩, ⟨x1, ?_, kg3.tr K133.1, fun i => by rw [x2 i]; exact hTm i⟩, hsum⟩
    exact TS_k hT3 (fun j h1 h2 => by rw [mi_get, if_neg (by omega)]) (fun p h1 h2 => by funext x; rw [mi_get, if_neg (by omega)])
theorem all_lv {ι : Type} {S : Nat → Nat} {X : Nat → Nat → Nat → Nat} {w : Nat → Nat} {b M : Nat} {cn : Bool} {pc : Nat} {E : rn_Mem → Prop} {J : rn_Mem → Nat → Prop} {Tm : ι → rn_Mem → Prop} {Bq : ι → (Nat → Nat) → Prop} {Wq : (Nat → Nat) → Nat} (wg : WG S) (wc : WC S) (hH : HZ S X) (hD : DX S X) (hX : SX S X) (hF : FT S w) (hb : b < S 1) (hM : M < 2 ^ 31) (hpc : pc ≤ 4) (K : HK S X w b M cn pc E J Tm Bq Wq) : ∀ k, ALL S X w b M cn pc E J Tm Bq Wq k
  | 0 => all_of_one wg wc hH hD hX hF hb hM hpc K (one_zero wg wc hH hD hX hF hb hM hpc K)
  | k + 1 => all_of_one wg wc hH hD hX hF hb hM hpc K (one_succ wg wc hH hD hX hF hb hM hpc K (all_lv wg wc hH hD hX hF hb hM hpc K k))
