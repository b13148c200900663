/-! THE REFERENCE'S SEARCH: the tricks of a row of winners, laid out -/
theorem XT_HZ {S : Nat → Nat} {tc : Nat} {XL : Nat → Nat → Nat → Nat} (h : HZ S XL) : HZ S (XT S tc XL) := ⟨h.1, fun c i j h1 h2 h3 => by
  unfold XT
  by_cases y : c = tc ∧ c < 4
  · rw [if_pos y]; exact h.2 c _ j h1 (by omega) h3
  · rw [if_neg y]; exact h.2 c i j h1 h2 h3⟩
theorem XT_4 {S : Nat → Nat} {XL : Nat → Nat → Nat → Nat} : XT S 4 XL = XL := by
  funext c i j
  unfold XT
  rw [if_neg (by omega)]
theorem XT_DX {S : Nat → Nat} {tc : Nat} {XL : Nat → Nat → Nat → Nat} (h : DX S XL) : DX S (XT S tc XL) := by
  intro c i j d k l h1 h2 h3 h4 h5 h6 e
  unfold XT at e
  obtain ⟨e1, e2, e3⟩ := h _ _ _ _ _ _ h1 (show (if c = tc ∧ c < 4 then mmS S c - 1 - i else i) < mmS S c by split <;> omega) h3 h4 (show (if d = tc ∧ d < 4 then mmS S d - 1 - k else k) < mmS S d by split <;> omega) h6 e
  subst e1
  refine ⟨rfl, ?_, e3⟩
  by_cases y : c = tc ∧ c < 4
  · rw [if_pos y, if_pos y] at e2; omega
  · rw [if_neg y, if_neg y] at e2; exact e2
def fR (S : Nat → Nat) (X : Nat → Nat → Nat → Nat) (w : Nat → Nat) (k : Nat) : Nat → Nat := X (w k) (ixk S w k)
def okR (S : Nat → Nat) (X : Nat → Nat → Nat → Nat) (w : Nat → Nat) (b k : Nat) : Nat → Bool := okO S (S 4) (ldR S w b k) (w k) (fR S X w k)
def gR (S : Nat → Nat) (X : Nat → Nat → Nat → Nat) (w : Nat → Nat) (b k : Nat) : Nat := fb_ct (okR S X w b k) (noS S)
def FOm (S : Nat → Nat) (X : Nat → Nat → Nat → Nat) (w : Nat → Nat) (b K : Nat) (m : rn_Mem) : Prop := ∀ k, k < K → m.1 129 k = nI (ldR S w b k) ∧ (∀ t, t < S 1 → m.1 130 (4 * k + t) = nI (fR S X w k t) ∧ m.1 137 (fR S X w k t) = nI k) ∧ m.1 132 k = nI (gR S X w b k) ∧ ∀ y, y < noS S → okR S X w b k y = true → m.1 131 (24 * k + fb_ct (okR S X w b k) y) = nI y
/-- what the laying reads -/
def RX (S : Nat → Nat) (tc : Nat) (XL : Nat → Nat → Nat → Nat) (w : Nat → Nat) (m : rn_Mem) : Prop := zOT S (m.1 116) ∧ m.1 115 7 = zT tc ∧ m.1 115 8 = zT (S 4) ∧ m.1 115 10 = nI (S 6) ∧ (∀ j, j < S 2 → m.1 128 j = nI (w j)) ∧ ∀ c i j, c < S 1 → i < mmS S c → j < S 1 → m.1 127 (12 * c + S 1 * i + j) = nI (XL c i j)
def Ko (m m2 : rn_Mem) : Prop := m2.2 = m.2 ∧ ∀ p, p ≠ 119 → p ≠ 129 → p ≠ 130 → p ≠ 131 → p ≠ 132 → p ≠ 137 → m2.1 p = m.1 p
/-- a row of winners that fits the heaps -/
def FT (S w : Nat → Nat) : Prop := (∀ k, k < S 2 → w k < S 1) ∧ ∀ c, c < S 1 → ctw S w c = mmS S c
theorem ixR {S w : Nat → Nat} {k : Nat} (h : FT S w) (hk : k < S 2) : ixk S w k = fb_ct (fun j => decide (w j = w k)) k ∧ ixk S w k < mmS S (w k) := by
  have e := ix_fit hk (h.2 (w k) (h.1 k hk))
  refine ⟨e, ?_⟩
  rw [e, ← h.2 (w k) (h.1 k hk)]
  have h1 := fb_ct_succ (fun j => decide (w j = w k)) k
  rw [if_pos (decide_eq_true rfl)] at h1
  have h2 : fb_ct (fun j => decide (w j = w k)) (k + 1) ≤ fb_ct (fun j => decide (w j = w k)) (S 2) := by
    exact fb_ct_mono _ (by omega)
  unfold ctw
  omega
theorem ix_ne {S w : Nat → Nat} {k l : Nat} (h : FT S w) (hk : k < l) (hl : l < S 2) (e : w k = w l) : ixk S w k < ixk S w l := by
  rw [(ixR h (show k < S 2 by omega)).1, (ixR h hl).1, e]
  have h1 := fb_ct_succ (fun j => decide (w j = w l)) k
  rw [if_pos (decide_eq_true e)] at h1
  have h2 : fb_ct (fun j => decide (w j = w l)) (k + 1) ≤ fb_ct (fun j => decide (w j = w l)) l := by
    exact fb_ct_mono _ (by omega)
  omega
theorem fR_ne {S : Nat → Nat} {X : Nat → Nat → Nat → Nat} {w : Nat → Nat} {k l s t : Nat} (hD : DX S X) (h : FT S w) (hk : k < S 2) (hl : l < S 2) (hs : s < S 1) (ht : t < S 1) (e : fR S X w k s = fR S X w l t) : k = l ∧ s = t := by
  obtain ⟨e1, e2, e3⟩ := hD _ _ _ _ _ _ (h.1 k hk) (ixR h hk).2 hs (h.1 l hl) (ixR h hl).2 ht e
  refine ⟨?_, e3⟩
  by_cases y : k < l
  · exact absurd (ix_ne h y hl e1) (by omega)
  by_cases z : l < k
  · exact absurd (ix_ne h z hk e1.symm) (by omega)
  omega
theorem zT_n {v : Nat} (h : v < 4) : zT v = nI v := by unfold zT; rw [if_pos h]
theorem zT_eqn {v c : Nat} (hv : v ≤ 4) (hc : c < 4) : zT v = nI c ↔ v = c := by
  by_cases y : v < 4
  · rw [zT_n y, nI_eq (by omega) (by omega)]
  · unfold zT
    rw [if_neg y, eq_mn (by omega) (by omega) (by omega)]
    exact ⟨fun h => h.elim, fun h => by omega⟩
theorem fo_l4 {S w : Nat → Nat} {XL : Nat → Nat → Nat → Nat} {tc b : Nat} (wg : WG S) (hs : ∀ c, c < S 1 → S (12 + c) ≤ 12) (htc : tc ≤ 4) (hb : b < S 1) (hF : FT S w) (hH : HZ S XL) (hD : DX S XL) : ∀ (r k nf : Nat) (m : rn_Mem) (fi : Bool), k + r = S 2 → r + 200 < nf → RX S tc XL w m → FOm S (XT S tc XL) w b k m → (fi = true ↔ ∀ j, j < k → 0 < gR S (XT S tc XL) w b j) → ∃ (m2 : rn_Mem) (fi2 : Bool), mo_findOrders_l4 (nI b) nf (if fi = true then 1 else 0) (nI k) m = some (if fi2 = true then 1 else 0, m2) ∧ FOm S (XT S tc XL) w b (S 2) m2 ∧ (fi2 = true ↔ ∀ j, j < S 2 → 0 < gR S (XT S tc XL) w b j) ∧ Ko m m2 := by
  have w1 : 2 ≤ S 1 := wg.1
  have w2 : S 1 ≤ 4 := wg.2.1
  have w4 : S 2 ≤ 4 := wg.2.2.2.1
  have w6 : S 6 ≤ 1 := wg.2.2.2.2.2.2.2.2.1
  have hXH := XT_HZ (tc := tc) hH
  have hXD := XT_DX (tc := tc) hD
  intro r
  induction r with
  | zero =>
    intro k nf m fi e hnf hR hO hf
    obtain ⟨nf, rfl⟩ : ∃ e, nf = e + 1 := ⟨nf - 1, by omega⟩
    obtain rfl : k = S 2 := by omega
    refine ⟨m, fi, ?_, hO, hf, rfl, fun _ _ _ _ _ _ _ => rfl⟩
    rw [mo_findOrders_l4, hR.1.1 2 (by omega) (by omega) (by omega) (by omega), if_neg (by rw [nI_ltI (by omega) (by omega)]; omega)]
  | succ r ih =>
    intro k nf m fi e hnf hR hO hf
    obtain ⟨nf, rfl⟩ : ∃ e, nf = e + 1 := ⟨nf - 1, by omega⟩
    obtain ⟨hz, r7, r8, r10, rw', rX⟩ := hR
    have z1 : m.1 116 1 = nI (S 1) := hz.1 1 (by omega) (by omega) (by omega) (by omega)
    have z2 : m.1 116 2 = nI (S 2) := hz.1 2 (by omega) (by omega) (by omega) (by omega)
    have hwk := hF.1 k (by omega)
    have hz12 : m.1 116 (12 + w k) = nI (S (12 + w k)) := hz.1 (12 + w k) (by omega) (by omega) (by omega) (by omega)
    have hsk := hs (w k) hwk
    obtain ⟨hix, hixm⟩ := ixR hF (show k < S 2 by omega)
    have hL := ldR_lt (w := w) (b := b) (k := k) wg hb (fun j hj => hF.1 j (by omega))
    generalize eL : ldR S w b k = L at hL
    generalize eI : (if w k = tc ∧ w k < 4 then mmS S (w k) - 1 - ixk S w k else ixk S w k) = I
    have hI : I < mmS S (w k) := by rw [← eI]; split <;> omega
    have hmm : mmS S (w k) * S 1 ≤ S (12 + w k) := Nat.div_mul_le_self _ _
    have hI2 : S 1 * I + S 1 ≤ 12 := by
      have : S 1 * (I + 1) ≤ S 1 * mmS S (w k) := Nat.mul_le_mul_left _ hI
      rw [Nat.mul_add, Nat.mul_one, Nat.mul_comm (S 1) (mmS S (w k))] at this
      omega
    have hm12 : mmS S (w k) ≤ 12 := Nat.le_trans (Nat.div_le_self _ _) hsk
    have i4 : rn_in (nI k) 4 = true := (in_n (by omega)).mpr (by omega)
    have x12 : (if nI k = 0 then some (nI b) else if (m.1 115 10) = 0 then if rn_in (nI k - 1) 4 = true then some (m.1 128 (nI k - 1).toNatClampNeg) else none else if rn_in (nI k - 1) 4 = true then if ¬ (m.1 116 1) = 0 then some (rn_rem ((m.1 129 (nI k - 1).toNatClampNeg) + 1) (m.1 116 1)) else none else none) = some (nI L) := by
      by_cases y : k = 0
      · rw [if_pos (by rw [y]; rfl), ← eL, y]; rfl
      · obtain ⟨k', rfl⟩ : ∃ k', k = k' + 1 := ⟨k - 1, by omega⟩
        rw [if_neg (nI_ne0 (by omega) (by omega)), show nI (k' + 1) - 1 = nI k' from pk_sub (b := 1) (by omega), if_pos ((in_n (by omega)).mpr (by omega)), nI_n (by omega), r10]
        rw [ldR] at eL
        by_cases y6 : S 6 = 0
        · rw [if_pos (by rw [y6]; rfl), rw' k' (by omega)]
          rw [if_pos y6] at eL
          rw [eL]
        · rw [if_neg (nI_ne0 (by omega) (by omega)), z1, if_pos (nI_ne0 (by omega) (by omega)), (hO k' (by omega)).1, nI_1]
          rw [if_neg y6] at eL
          have := ldR_lt (w := w) (b := b) (k := k') wg hb (fun j hj => hF.1 j (by omega))
          rw [if_pos ((in_n (by omega)).mpr (by omega)), rem_n (by omega) (by omega) (by omega), eL]
    generalize hm13 : rm_i m 129 k (nI L) = m13
    have f13 : ∀ p, p ≠ 129 → m13.1 p = m.1 p := fun p h1 => by rw [← hm13]; funext q; rw [mi_get, if_neg (fun t => h1 t.1)]
    have g13 : ∀ x, m13.1 129 x = if x = k then nI L else m.1 129 x := fun x => by
      rw [← hm13, mi_get]
      by_cases y : x = k
      · rw [if_pos ⟨rfl, y⟩, if_pos y]
      · rw [if_neg (fun t => y t.2), if_neg y]
    have x25 := fo_l77 (m := m13) (a1 := nI b) (a2 := if fi = true then 1 else 0) wg (show k < S 2 by omega) hwk (fun j hj => by rw [f13 128 (by omega)]; exact rw' j hj) hF.1 k 0 nf (by omega) (by omega)
    rw [← hix] at x25
    have x34 : (if (m13.1 115 7) = nI (w k) then if rn_in ((12 : Int32) + nI (w k)) 101 = true then if ¬ (m13.1 116 1) = 0 then some ((((m13.1 116 ((12 : Int32) + nI (w k)).toNatClampNeg) / (m13.1 116 1)) - 1) - nI (ixk S w k)) else none else none else some (nI (ixk S w k))) = some (nI I) := by
      rw [f13 115 (by omega), f13 116 (by omega), r7, k12, nI_add, nI_n (by omega), hz12, z1]
      by_cases y : w k = tc
      · rw [if_pos ⟨y, by omega⟩] at eI
        rw [if_pos (by rw [zT_eqn htc (by omega)]; exact y.symm), if_pos ((in_n (by omega)).mpr (by omega)), if_pos (nI_ne0 (by omega) (by omega)), pk_div (by omega) (by omega) (by omega)]
        rw [show nI (S (12 + w k) / S 1) - 1 = nI (mmS S (w k) - 1) from pk_sub (b := 1) (by unfold mmS at hixm; omega), pk_sub (by omega), eI]
      · rw [if_neg (fun t => y t.1)] at eI
        rw [if_neg (by rw [zT_eqn htc (by omega)]; exact fun t => y t.symm), eI]
    have hXI : ∀ j, j < S 1 → XL (w k) I j = fR S (XT S tc XL) w k j := fun j hj => by
      unfold fR XT
      rw [← eI]
    have hf16 : ∀ j, j < S 1 → fR S (XT S tc XL) w k j < 16 := fun j hj => hXH.2 _ _ _ hwk hixm hj
    obtain ⟨m43, a1, a2, a3, a4, a5, a6⟩ := fo_l152 (f := fR S (XT S tc XL) w k) (k := k) (c := w k) (i := I) (a1 := nI b) (a2 := if fi = true then 1 else 0) wg (by omega) hwk hI2 hf16 (S 1) 0 nf m13 (by omega) (by omega) (by rw [f13 116 (by omega)]; exact z1) (fun j hj => by rw [f13 127 (by omega), ← hXI j hj]; exact rX (w k) I j hwk hI hj) (fun t ht => absurd ht (Nat.not_lt_zero t))
    generalize hm47 : rm_i m43 132 k 0 = m47
    have f47 : ∀ p, p ≠ 132 → m47.1 p = m43.1 p := fun p h1 => by rw [← hm47]; funext q; rw [mi_get, if_neg (fun t => h1 t.1)]
    have e116 : m47.1 116 = m.1 116 := by rw [f47 116 (by omega), a6 116 (by omega) (by omega), f13 116 (by omega)]
    obtain ⟨m90, b1, b2, b3, b4, b5, b6, b7⟩ := fo_l225 (f := fR S (XT S tc XL) w k) (k := k) (c := w k) (L := L) (tr := S 4) (a1 := nI b) (a2 := if fi = true then 1 else 0) wg (by omega) hwk hL hf16 (noS S) 0 nf m47 (by omega) (by
      have : noS S ≤ 24 := (noS_le w1 w2).2
      omega) (by rw [e116]; exact hz) (by rw [f47 115 (by omega), a6 115 (by omega) (by omega), f13 115 (by omega)]; exact r8) (by rw [f47 129 (by omega), a6 129 (by omega) (by omega), g13, if_pos rfl]) (fun t ht => by rw [f47 130 (by omega)]; exact (a2 t ht).1) (by rw [← hm47, mi_get, if_pos ⟨rfl, rfl⟩]; rfl) (fun y hy => absurd hy (Nat.not_lt_zero y))
    have eok : okO S (S 4) L (w k) (fR S (XT S tc XL) w k) = okR S (XT S tc XL) w b k := by unfold okR; rw [eL]
    rw [eok] at b2 b3
    have hO2 : FOm S (XT S tc XL) w b (k + 1) m90 := by
      intro l hl
      by_cases y : l = k
      · subst y
        refine ⟨?_, fun t ht => ?_, b2, b3⟩
        · rw [b7 129 (by omega) (by omega) (by omega), f47 129 (by omega), a6 129 (by omega) (by omega), g13, if_pos rfl, eL]
        · rw [b7 130 (by omega) (by omega) (by omega), b7 137 (by omega) (by omega) (by omega), f47 130 (by omega), f47 137 (by omega)]
          exact a2 t ht
      · obtain ⟨o1, o2, o3, o4⟩ := hO l (by omega)
        refine ⟨?_, fun t ht => ?_, ?_, fun y' hy hok => ?_⟩
        · rw [b7 129 (by omega) (by omega) (by omega), f47 129 (by omega), a6 129 (by omega) (by omega), g13, if_neg y]; exact o1
        · rw [b7 130 (by omega) (by omega) (by omega), b7 137 (by omega) (by omega) (by omega), f47 130 (by omega), f47 137 (by omega), a4 _ (by omega), f13 130 (by omega), a3 _ (fun s hs e => absurd (fR_ne hXD hF (by omega) (by omega) hs ht e).1 (fun t => y t.symm)), f13 137 (by omega)]
          exact o2 t ht
        · rw [b5 l y, ← hm47, mi_get, if_neg (fun t => y t.2), a6 132 (by omega) (by omega), f13 132 (by omega)]; exact o3
        · have hle : fb_ct (okR S (XT S tc XL) w b l) y' ≤ y' := fb_ct_le _ _
          have h24 : noS S ≤ 24 := (noS_le w1 w2).2
          rw [b6 _ (by omega), f47 131 (by omega), a6 131 (by omega) (by omega), f13 131 (by omega)]; exact o4 y' hy hok
    have hx103 : ∃ fi2 : Bool, (if (if fi = true then (1 : Int32) else 0) = 0 then some 0 else if rn_in (nI k) 4 = true then if 0 < (m90.1 132 (nI k).toNatClampNeg) then some 1 else some 0 else none) = some (if fi2 = true then (1 : Int32) else 0) ∧ (fi2 = true ↔ ∀ j, j < k + 1 → 0 < gR S (XT S tc XL) w b j) := by
      refine ⟨fi && decide (0 < gR S (XT S tc XL) w b k), ?_, ?_⟩
      · cases fi with
        | false => rfl
        | true =>
          rw [if_neg (by decide), if_pos i4, nI_n (by omega), show m90.1 132 k = nI (gR S (XT S tc XL) w b k) from b2]
          have hg : gR S (XT S tc XL) w b k ≤ noS S := fb_ct_le _ _
          have h24 : noS S ≤ 24 := (noS_le w1 w2).2
          by_cases y : 0 < gR S (XT S tc XL) w b k
          · rw [if_pos (by rw [k0, nI_ltI (by omega) (by omega)]; exact y), Bool.true_and, decide_eq_true y]; rfl
          · rw [if_neg (by rw [k0, nI_ltI (by omega) (by omega)]; exact y), Bool.true_and, decide_eq_false y]; rfl
      · rw [Bool.and_eq_true, hf, decide_eq_true_iff]
        constructor
        · intro h j hj
          by_cases y : j = k
          · rw [y]; exact h.2
          · exact h.1 j (by omega)
        · intro h
          exact ⟨fun j hj => h j (by omega), h k (by omega)⟩
    obtain ⟨fi2, c1, c2⟩ := hx103
    have hRX : RX S tc XL w m90 := by
      have e90 : ∀ p, p ≠ 119 → p ≠ 129 → p ≠ 130 → p ≠ 131 → p ≠ 132 → p ≠ 137 → m90.1 p = m.1 p := fun p h1 h2 h3 h4 h5 h6 => by rw [b7 p h1 h4 h5, f47 p h5, a6 p h3 h6, f13 p h2]
      unfold RX
      rw [e90 116 (by omega) (by omega) (by omega) (by omega) (by omega) (by omega), e90 115 (by omega) (by omega) (by omega) (by omega) (by omega) (by omega), e90 128 (by omega) (by omega) (by omega) (by omega) (by omega) (by omega), e90 127 (by omega) (by omega) (by omega) (by omega) (by omega) (by omega)]
      exact ⟨hz, r7, r8, r10, rw', rX⟩
    obtain ⟨m2, fi3, d1, d2, d3, d4⟩ := ih (k + 1) nf m90 fi2 (by omega) (by omega) hRX hO2 c2
    refine ⟨m2, fi3, ?_, d2, d3, ?_, fun p h1 h2 h3 h4 h5 h6 => ?_⟩
    · rw [mo_findOrders_l4, z2, if_pos (by rw [nI_ltI (by omega) (by omega)]; omega), if_pos i4, nI_n (by omega), rw' k (by omega), Option.bind_some]
      simp only []
      rw [x12, Option.bind_some, if_pos i4, hm13, Option.bind_some, show mo_findOrders_l77 (nI b) (if fi = true then 1 else 0) (nI k) (nI (w k)) nf 0 0 m13 = some (nI (ixk S w k), m13) from x25, Option.bind_some]
      simp only []
      rw [x34, Option.bind_some, show mo_findOrders_l152 (nI b) (if fi = true then 1 else 0) (nI k) (nI (w k)) (nI I) nf 0 m13 = some m43 from a1, Option.bind_some, if_pos i4, hm47, Option.bind_some, show mo_findOrders_l225 (nI b) (if fi = true then 1 else 0) (nI k) (nI (w k)) nf 0 m47 = some m90 from b1, Option.bind_some]
      rw [nI_n (show k < 2 ^ 31 by omega)] at c1
      rw [c1, Option.bind_some, nI_1, Option.bind_some]
      exact d1
    · rw [d4.1, b4, ← hm47, mi_2, a5, ← hm13, mi_2]
    · rw [d4.2 p h1 h2 h3 h4 h5 h6, b7 p h1 h4 h5, f47 p h5, a6 p h3 h6, f13 p h2]
