/-! THE REFERENCE'S SEARCH: all rows of winners -/
theorem dgw_hi {n : Nat} : ∀ {k r : Nat} {w : Nat → Nat} {j : Nat}, k ≤ j → dgw n k r w j = w j
  | 0, _, _, _, _ => rfl
  | k + 1, r, w, j, h => by rw [dgw, dgw_hi (by omega), fu_n (by omega)]
theorem dgw_lo {n : Nat} (hn : 0 < n) : ∀ {k r : Nat} {w : Nat → Nat} {j : Nat}, j < k → dgw n k r w j < n
  | 0, _, _, j, h => absurd h (Nat.not_lt_zero j)
  | k + 1, r, w, j, h => by
    rw [dgw]
    by_cases y : j = k
    · rw [y, dgw_hi (Nat.le_refl k), fu_s]; exact Nat.mod_lt _ hn
    · exact dgw_lo hn (by omega)
theorem dgw_ex {n : Nat} (hn : 0 < n) : ∀ {k : Nat} {w u : Nat → Nat}, (∀ j, j < k → u j < n) → (∀ j, k ≤ j → u j = w j) → ∃ r, r < n ^ k ∧ dgw n k r w = u
  | 0, w, u, _, h => ⟨0, by rw [Nat.pow_zero]; omega, funext fun j => (h j (Nat.zero_le j)).symm⟩
  | k + 1, w, u, h1, h2 => by
    obtain ⟨r, hr, e⟩ := dgw_ex hn (k := k) (w := fu w k (u k)) (u := u) (fun j hj => h1 j (by omega)) (fun j hj => by
      by_cases y : j = k
      · rw [y, fu_s]
      · rw [fu_n y]; exact h2 j (by omega))
    have hk := h1 k (by omega)
    refine ⟨r * n + u k, ?_, ?_⟩
    · rw [Nat.pow_succ]
      have : (r + 1) * n ≤ n ^ k * n := Nat.mul_le_mul_right _ hr
      rw [Nat.add_mul, Nat.one_mul] at this
      omega
    · rw [dgw, show (r * n + u k) / n = r by rw [Nat.mul_comm, Nat.mul_add_div hn, Nat.div_eq_of_lt hk, Nat.add_zero], show (r * n + u k) % n = u k by rw [Nat.mul_comm, Nat.mul_add_mod, Nat.mod_eq_of_lt hk]]
      exact e
/-- the static part of the reference's memory while a filling r is searched -/
def EF (S : Nat → Nat) (r : Nat) (m : rn_Mem) : Prop := RL S m ∧ ∀ t, t < uc S → m.1 127 (nth (unS S) t 48) = nI (nth (msS S) (od (uc S) r t) 16)
def EW (S : Nat → Nat) (r : Nat) (w : Nat → Nat) (m : rn_Mem) : Prop := EF S r m ∧ ∀ j, j < S 2 → m.1 128 j = nI (w j)
/-- the laws that are asked -/
def RM (S : Nat → Nat) (tc M : Nat) (cn : Bool) (pc : Nat) (m : rn_Mem) : Prop := m.1 115 7 = zT tc ∧ m.1 115 8 = zT (S 4) ∧ m.1 115 10 = nI (S 6) ∧ RXm S M cn pc m
def Kwi (m m2 : rn_Mem) : Prop := (∀ p, p ≠ 115 → p ≠ 119 → ¬ (120 ≤ p ∧ p ≤ 124) → ¬ (128 ≤ p ∧ p ≤ 137) → m2.1 p = m.1 p) ∧ (∀ i, i ≠ 15 → m2.1 115 i = m.1 115 i) ∧ ∀ p i, ¬ (p = 115 ∧ i = 14) → m2.2 p i = m.2 p i
theorem Kwi.rf {m : rn_Mem} : Kwi m m := ⟨fun _ _ _ _ _ => rfl, fun _ _ => rfl, fun _ _ _ => rfl⟩
theorem Kwi.tr {m m1 m2 : rn_Mem} (h : Kwi m m1) (h2 : Kwi m1 m2) : Kwi m m2 := ⟨fun p a b c d => by rw [h2.1 p a b c d, h.1 p a b c d], fun i a => by rw [h2.2.1 i a, h.2.1 i a], fun p i a => by rw [h2.2.2 p i a, h.2.2 p i a]⟩
theorem Kh.w {m m2 : rn_Mem} (h : Kh m m2) : Kwi m m2 := ⟨fun p a b c d => h.1 p a b c (by omega), h.2.1, h.2.2⟩
theorem RM_k {S : Nat → Nat} {tc M pc : Nat} {cn : Bool} {m m2 : rn_Mem} (h : RM S tc M cn pc m) (hk : ∀ i, i < 14 → m2.1 115 i = m.1 115 i) : RM S tc M cn pc m2 := by
  unfold RM RXm at h ⊢
  rw [hk 6 (by omega), hk 7 (by omega), hk 8 (by omega), hk 9 (by omega), hk 10 (by omega), hk 11 (by omega), hk 12 (by omega)]
  exact h
theorem EF_k {S : Nat → Nat} {r : Nat} {m m2 : rn_Mem} (h : EF S r m) (hk : Kwi m m2) : EF S r m2 := by
  refine ⟨RL_k h.1 (fun p hp => hk.1 p (by omega) (by omega) (by omega) (by omega)) (hk.2.1 21 (by omega)), fun t ht => ?_⟩
  rw [hk.1 127 (by omega) (by omega) (by omega) (by omega)]
  exact h.2 t ht
theorem EW_k {S : Nat → Nat} {r : Nat} {w : Nat → Nat} {m m2 : rn_Mem} (h : EW S r w m) (hk : Kh m m2) : EW S r w m2 := ⟨EF_k h.1 hk.w, fun j hj => by rw [hk.1 128 (by omega) (by omega) (by omega) (by omega)]; exact h.2 j hj⟩
/-- all lines of the filling r -/
def HKA {ι : Type} (S : Nat → Nat) (tc r M : Nat) (cn : Bool) (pc : Nat) (J : rn_Mem → Nat → Prop) (Tm : ι → rn_Mem → Prop) (Bq : ι → (Nat → Nat) → Nat → (Nat → Nat) → Prop) (Wq : (Nat → Nat) → Nat → (Nat → Nat) → Nat) : Prop := (∀ m m2 n, Fr m m2 → J m n → J m2 n ∧ ∀ i, Tm i m2 ↔ Tm i m) ∧ ∀ w b, FT S w → b < S 1 → HK S (XT S tc (XF S r)) w b M cn pc (fun m => EW S r w m ∧ COQ S (XT S tc (XF S r)) w b M) J Tm (fun i => Bq i w b) (Wq w b) ∧ (¬ COQ S (XT S tc (XF S r)) w b M → ∀ p, OKQ S (XT S tc (XF S r)) w b p → (∀ i, ¬ Bq i w b p) ∧ Wq w b p = 0)
noncomputable def sLn (S : Nat → Nat) (tc r : Nat) (Wq : (Nat → Nat) → Nat → (Nat → Nat) → Nat) (b : Nat) (w : Nat → Nat) : Nat := ifc (FT S w) (NS (fun a b => a + b) 0 (noS S) (S 2) (fun _ => 0) (phi S (XT S tc (XF S r)) w b (Wq w b))) 0
theorem fw_l4 {S : Nat → Nat} {a1 : Int32} {m : rn_Mem} (wg : WG S) (z1 : m.1 116 1 = nI (S 1)) (z2 : m.1 116 2 = nI (S 2)) : ∀ (r k nf : Nat), k + r = S 2 → r < nf → mo_findWinners_l4 a1 nf (nI (S 1 ^ k)) (nI k) m = some (nI (S 1 ^ S 2), m) := by
  have w4 : S 2 ≤ 4 := wg.2.2.2.1
  intro r
  induction r with
  | zero =>
    intro k nf e hnf
    obtain ⟨nf, rfl⟩ : ∃ e, nf = e + 1 := ⟨nf - 1, by omega⟩
    obtain rfl : k = S 2 := by omega
    rw [mo_findWinners_l4, z2, if_neg (by rw [nI_ltI (by omega) (by omega)]; omega)]
  | succ r ih =>
    intro k nf e hnf
    obtain ⟨nf, rfl⟩ : ∃ e, nf = e + 1 := ⟨nf - 1, by omega⟩
    rw [mo_findWinners_l4, z2, if_pos (by rw [nI_ltI (by omega) (by omega)]; omega), z1, pk_mul, Option.bind_some, nI_1, Option.bind_some, ← Nat.pow_succ]
    exact ih (k + 1) nf (by omega) (by omega)
theorem sub_m1 {k : Nat} (h : 1 ≤ k) : nI k - 1 = nI k + (-1) := by
  obtain ⟨j, rfl⟩ : ∃ j, k = j + 1 := ⟨k - 1, by omega⟩
  rw [pk_m1]
  exact pk_sub (b := 1) (by omega)
theorem pw_256 {n t : Nat} (hn : n ≤ 4) (ht : t ≤ 4) : n ^ t ≤ 256 := Nat.le_trans (Nat.pow_le_pow_left hn t) (Nat.le_trans (Nat.pow_le_pow_right (by decide) ht) (by decide))
theorem fw_l31 {ι : Type} {S : Nat → Nat} {tc r M pc b : Nat} {cn : Bool} {J : rn_Mem → Nat → Prop} {Tm : ι → rn_Mem → Prop} {Bq : ι → (Nat → Nat) → Nat → (Nat → Nat) → Prop} {Wq : (Nat → Nat) → Nat → (Nat → Nat) → Nat} (wg : WG S) (wt : WT S) (wc : WC S) (h9 : S 9 = 1) (hr : r < fac (uc S)) (htc : tc ≤ 4) (hX : SX S (XT S tc (XF S r))) (hb : b < S 1) (hM : M < 2 ^ 31) (hpc : pc ≤ 4) (K : HKA S tc r M cn pc J Tm Bq Wq) : ∀ (d x nf n : Nat) (m : rn_Mem), x + d = S 1 ^ S 2 → d + 400400 < nf → n + gs (fun a b => a + b) 0 (fun y => sLn S tc r Wq b (dgw (S 1) (S 2) y (fun _ => 0))) (S 1 ^ S 2) < BBd + gs (fun a b => a + b) 0 (fun y => sLn S tc r Wq b (dgw (S 1) (S 2) y (fun _ => 0))) x → EF S r m → J m n → RM S tc M cn pc m → ∃ m2 n2, mo_findWinners_l31 (nI b) (nI (S 1 ^ S 2)) nf (nI x) m = some m2 ∧ J m2 n2 ∧ Kwi m m2 ∧ (∀ i, Tm i m2 ↔ Tm i m ∨ ∃ y p, x ≤ y ∧ y < S 1 ^ S 2 ∧ FT S (dgw (S 1) (S 2) y (fun _ => 0)) ∧ OKQ S (XT S tc (XF S r)) (dgw (S 1) (S 2) y (fun _ => 0)) b p ∧ (∀ j, S 2 ≤ j → p j = 0) ∧ Bq i (dgw (S 1) (S 2) y (fun _ => 0)) b p) ∧ n2 + gs (fun a b => a + b) 0 (fun y => sLn S tc r Wq b (dgw (S 1) (S 2) y (fun _ => 0))) x = n + gs (fun a b => a + b) 0 (fun y => sLn S tc r Wq b (dgw (S 1) (S 2) y (fun _ => 0))) (S 1 ^ S 2) := by
  have w1 : 2 ≤ S 1 := wg.1
  have w2 : S 1 ≤ 4 := wg.2.1
  have w3 : 1 ≤ S 2 := wg.2.2.1
  have w4 : S 2 ≤ 4 := wg.2.2.2.1
  have hP := pw_256 w2 w4
  have hs : ∀ c, c < S 1 → S (12 + c) ≤ 12 := fun c hc => sz_12 wg wt h9 hc
  have hH := XF_HZ wg wt h9 hr
  have hD := XF_DX wg wt h9 hr
  intro d
  induction d with
  | zero =>
    intro x nf n m e hnf hB hE hJ hR
    obtain ⟨nf, rfl⟩ : ∃ e, nf = e + 1 := ⟨nf - 1, by omega⟩
    obtain rfl : x = S 1 ^ S 2 := by omega
    refine ⟨m, n, by rw [mo_findWinners_l31, if_neg (by rw [nI_ltI (by omega) (by omega)]; omega)], hJ, Kwi.rf, fun i => ⟨Or.inl, fun h => h.elim id fun ⟨y, p, h1, h2, _⟩ => by omega⟩, rfl⟩
  | succ d ih =>
    intro x nf n m e hnf hB hE hJ hR
    obtain ⟨nf, rfl⟩ : ∃ e, nf = e + 1 := ⟨nf - 1, by omega⟩
    by_cases yd : dn m
    · have h3 : ∀ w, FT S w → ∀ p, OKQ S (XT S tc (XF S r)) w b p → (∀ i, Bq i w b p → Tm i m) ∧ Wq w b p = 0 := fun w hw => (K.2 w b hw hb).1.2.2.2.1 m n hJ yd
      refine ⟨m, n, ?_, hJ, Kwi.rf, fun i => ⟨Or.inl, fun h => h.elim id fun ⟨y, p, _, _, h1, h2, _, h4⟩ => (h3 _ h1 p h2).1 i h4⟩, ?_⟩
      · rw [mo_findWinners_l31, if_pos (by rw [nI_ltI (by omega) (by omega)]; omega), done_y yd, Option.bind_some]
        rfl
      · rw [show S 1 ^ S 2 = x + (d + 1) by omega, gs_zero fun y _ _ => ?_]
        unfold sLn
        by_cases hw : FT S (dgw (S 1) (S 2) y (fun _ => 0))
        · rw [ifc_p hw]
          refine NS_z fun p _ => ?_
          unfold phi
          by_cases q : OKQ S (XT S tc (XF S r)) (dgw (S 1) (S 2) y (fun _ => 0)) b p
          · rw [ifc_p q]; exact (h3 _ hw p q).2
          · rw [ifc_n q]
        · rw [ifc_n hw]
    have hmo := gs_mo (f := fun y => sLn S tc r Wq b (dgw (S 1) (S 2) y (fun _ => 0))) (show x + 1 ≤ S 1 ^ S 2 by omega)
    rw [gs] at hmo
    have z1 : m.1 116 1 = nI (S 1) := hE.1.1.1 1 (by omega) (by omega) (by omega) (by omega)
    have z2 : m.1 116 2 = nI (S 2) := hE.1.1.1 2 (by omega) (by omega) (by omega) (by omega)
    obtain ⟨m25, a1, a2, a3, a4⟩ := fw_l56 (a1 := nI b) (a2 := nI (S 1 ^ S 2)) (a3 := nI x) wg (S 2) x nf (fun _ => 0) m (Nat.le_refl _) (by omega) (by omega) z1 (fun j h1 h2 => by omega)
    generalize hw : dgw (S 1) (S 2) x (fun _ => 0) = w at a2 hmo
    have hwl : ∀ j, j < S 2 → w j < S 1 := fun j hj => by rw [← hw]; exact dgw_lo (by omega) hj
    have kw25 : Kwi m m25 := ⟨fun p _ _ _ h => a4 p (by omega), fun i _ => by rw [a4 115 (by omega)], fun p i _ => by rw [a3]⟩
    have fr25 : Fr m m25 := ⟨a3, a4 115 (by omega), fun p h1 h2 => a4 p (by omega)⟩
    have hE25 := EF_k hE kw25
    have hR25 := RM_k hR (fun i hi => kw25.2.1 i (by omega))
    obtain ⟨fi, c1, c2⟩ := fw_l100 (m := m25) (a1 := nI b) (a2 := nI (S 1 ^ S 2)) (a3 := nI x) wg hs hE25.1.1 a2 hwl (S 1) 0 nf true (by omega) (by omega)
    have hfit : fi = true ↔ FT S w := by
      rw [c2]
      constructor
      · exact fun h => ⟨hwl, (fit_iff wg wt h9).mp fun d hd => h.2 d (Nat.zero_le d) hd⟩
      · exact fun h => ⟨rfl, fun d _ hd => (fit_iff wg wt h9).mpr h.2 d hd⟩
    have hstep : ∃ m72 n72, (if (if fi = true then (1 : Int32) else 0) = 0 then some m25 else (mo_findOrders nf (nI b) m25).bind fun m65 => some m65) = some m72 ∧ J m72 n72 ∧ Kwi m m72 ∧ (∀ i, Tm i m72 ↔ Tm i m ∨ ∃ p, FT S w ∧ OKQ S (XT S tc (XF S r)) w b p ∧ (∀ j, S 2 ≤ j → p j = 0) ∧ Bq i w b p) ∧ n72 = n + sLn S tc r Wq b w := by
      cases fi with
      | false =>
        have hnf' : ¬ FT S w := fun t => absurd (hfit.mpr t) (by decide)
        obtain ⟨j1, j2⟩ := K.1 m m25 n fr25 hJ
        refine ⟨m25, n, by rw [if_pos (show (if false = true then (1 : Int32) else 0) = 0 by decide)], j1, kw25, fun i => ?_, ?_⟩
        · rw [j2 i]; exact ⟨Or.inl, fun t => t.elim id fun ⟨p, h, _⟩ => absurd h hnf'⟩
        · unfold sLn; rw [ifc_n hnf']; rfl
      | true =>
        have hF := hfit.mp rfl
        obtain ⟨KH, KC⟩ := K.2 w b hF hb
        have hs1 : sLn S tc r Wq b w = NS (fun a b => a + b) 0 (noS S) (S 2) (fun _ => 0) (phi S (XT S tc (XF S r)) w b (Wq w b)) := by unfold sLn; rw [ifc_p hF]
        obtain ⟨j1, j2⟩ := KH.2.1 m m25 n fr25 hJ
        obtain ⟨m72, n72, g1, g2, g3, g4, g5⟩ := fo_sp (nf := nf) (tc := tc) (XL := XF S r) (by omega) wg wc hs htc hH hD hX hF hb hM hpc ⟨KH, fun m m2 h1 h2 => EW_k h2 h1, KC⟩ (by rw [← hs1]; omega) ⟨hE25, a2⟩ j1 ⟨hE25.1.1, hR25.1, hR25.2.1, hR25.2.2.1, a2, fp_T wg wt hE25.1 hE25.2⟩ hR25.2.2.2
        refine ⟨m72, n72, ?_, g2, kw25.tr g3.w, fun i => ?_, ?_⟩
        · rw [if_neg (show ¬ (if true = true then (1 : Int32) else 0) = 0 by decide), g1, Option.bind_some]
        · rw [g4 i, j2 i]
          exact ⟨fun h => h.elim Or.inl fun ⟨p, p1, p2, p3⟩ => Or.inr ⟨p, hF, p1, p2, p3⟩, fun h => h.elim Or.inl fun ⟨p, _, p1, p2, p3⟩ => Or.inr ⟨p, p1, p2, p3⟩⟩
        · rw [hs1]; exact g5
    obtain ⟨m72, n72, s1, s2, s3, s4, s5⟩ := hstep
    obtain ⟨m2, n2, i1, i2, i3, i4, i5⟩ := ih (x + 1) nf n72 m72 (by omega) (by omega) (by rw [gs, s5, hw]; omega) (EF_k hE s3) s2 (RM_k hR fun i hi => s3.2.1 i (by omega))
    refine ⟨m2, n2, ?_, i2, s3.tr i3, fun i => ?_, ?_⟩
    · rw [mo_findWinners_l31, if_pos (by rw [nI_ltI (by omega) (by omega)]; omega), done_n yd, Option.bind_some]
      try simp only []
      rw [if_pos trivial, Option.bind_some, z2, sub_m1 w3, a1, Option.bind_some, show mo_findWinners_l100 (nI b) (nI (S 1 ^ S 2)) (nI x) nf 1 0 m25 = _ from c1, Option.bind_some]
      try simp only []
      rw [s1, Option.bind_some, nI_1, Option.bind_some]
      exact i1
    · rw [i4 i, s4 i]
      constructor
      · rintro ((h | ⟨p, p1, p2, p3, p4⟩) | ⟨y, p, p1, p2, p3⟩)
        · exact Or.inl h
        · exact Or.inr ⟨x, p, Nat.le_refl x, by omega, by rw [hw]; exact p1, by rw [hw]; exact p2, p3, by rw [hw]; exact p4⟩
        · exact Or.inr ⟨y, p, by omega, p2, p3⟩
      · rintro (h | ⟨y, p, p1, p2, p3, p4, p5, p6⟩)
        · exact Or.inl (Or.inl h)
        · by_cases z : y = x
          · rw [z, hw] at p3 p4 p6
            exact Or.inl (Or.inr ⟨p, p3, p4, p5, p6⟩)
          · exact Or.inr ⟨y, p, by omega, p2, p3, p4, p5, p6⟩
    · rw [gs, s5, hw] at i5
      omega
theorem fw_sp {ι : Type} {S : Nat → Nat} {tc r M pc b nf n : Nat} {cn : Bool} {J : rn_Mem → Nat → Prop} {Tm : ι → rn_Mem → Prop} {Bq : ι → (Nat → Nat) → Nat → (Nat → Nat) → Prop} {Wq : (Nat → Nat) → Nat → (Nat → Nat) → Nat} {m : rn_Mem} (hnf : 401000 < nf) (wg : WG S) (wt : WT S) (wc : WC S) (h9 : S 9 = 1) (hr : r < fac (uc S)) (htc : tc ≤ 4) (hX : SX S (XT S tc (XF S r))) (hb : b < S 1) (hM : M < 2 ^ 31) (hpc : pc ≤ 4) (K : HKA S tc r M cn pc J Tm Bq Wq) (hB : n + NS (fun a b => a + b) 0 (S 1) (S 2) (fun _ => 0) (sLn S tc r Wq b) < BBd) (hE : EF S r m) (hJ : J m n) (hR : RM S tc M cn pc m) : ∃ m2 n2, mo_findWinners nf (nI b) m = some m2 ∧ J m2 n2 ∧ Kwi m m2 ∧ (∀ i, Tm i m2 ↔ Tm i m ∨ ∃ w p, FT S w ∧ (∀ j, S 2 ≤ j → w j = 0) ∧ OKQ S (XT S tc (XF S r)) w b p ∧ (∀ j, S 2 ≤ j → p j = 0) ∧ Bq i w b p) ∧ n2 = n + NS (fun a b => a + b) 0 (S 1) (S 2) (fun _ => 0) (sLn S tc r Wq b) := by
  have w1 : 2 ≤ S 1 := wg.1
  have hP := pw_256 wg.2.1 wg.2.2.2.1
  have z1 : m.1 116 1 = nI (S 1) := hE.1.1.1 1 (by omega) (by omega) (by omega) (by omega)
  have z2 : m.1 116 2 = nI (S 2) := hE.1.1.1 2 (by omega) (by omega) (by omega) (by omega)
  have h4 := fw_l4 (a1 := nI b) wg z1 z2 (S 2) 0 nf (by omega) (by have := wg.2.2.2.1; omega)
  rw [Nat.pow_zero] at h4
  obtain ⟨m2, n2, i1, i2, i3, i4, i5⟩ := fw_l31 wg wt wc h9 hr htc hX hb hM hpc K (S 1 ^ S 2) 0 nf n m (by omega) (by omega) (by rw [gs_row CM_nat (by omega) (sLn S tc r Wq b) (S 2) (fun _ => 0), gs, Nat.add_zero]; exact hB) hE hJ hR
  refine ⟨m2, n2, ?_, i2, i3, fun i => ?_, ?_⟩
  · rw [mo_findWinners, show mo_findWinners_l4 (nI b) nf 1 0 m = _ from h4, Option.bind_some]
    try simp only []
    rw [show mo_findWinners_l31 (nI b) (nI (S 1 ^ S 2)) nf 0 m = _ from i1, Option.bind_some]
  · rw [i4 i]
    constructor
    · exact fun h => h.elim Or.inl fun ⟨y, p, _, _, p3, p4, p5, p6⟩ => Or.inr ⟨_, p, p3, fun j hj => dgw_hi hj, p4, p5, p6⟩
    · rintro (h | ⟨w, p, p1, p2, p3, p4, p5⟩)
      · exact Or.inl h
      · obtain ⟨y, hy, e⟩ := dgw_ex (n := S 1) (by omega) (k := S 2) (w := fun _ => 0) (u := w) p1.1 p2
        exact Or.inr ⟨y, p, Nat.zero_le y, hy, by rw [e]; exact p1, by rw [e]; exact p3, p4, by rw [e]; exact p5⟩
  · rw [gs, Nat.add_zero] at i5
    rw [i5, gs_row CM_nat (by omega) (sLn S tc r Wq b) (S 2) (fun _ => 0)]
/-- may chair b begin -/
def bgn (S : Nat → Nat) (b : Nat) : Prop := S 8 = 4 ∨ b = S 8
noncomputable def sLb (S : Nat → Nat) (tc r : Nat) (Wq : (Nat → Nat) → Nat → (Nat → Nat) → Nat) (b : Nat) : Nat := ifc (bgn S b) (NS (fun a b => a + b) 0 (S 1) (S 2) (fun _ => 0) (sLn S tc r Wq b)) 0
theorem fp_l294 {ι : Type} {S : Nat → Nat} {tc r M pc : Nat} {cn : Bool} {a3 : Int32} {J : rn_Mem → Nat → Prop} {Tm : ι → rn_Mem → Prop} {Bq : ι → (Nat → Nat) → Nat → (Nat → Nat) → Prop} {Wq : (Nat → Nat) → Nat → (Nat → Nat) → Nat} (wg : WG S) (wt : WT S) (wc : WC S) (h9 : S 9 = 1) (hr : r < fac (uc S)) (htc : tc ≤ 4) (hX : SX S (XT S tc (XF S r))) (hM : M < 2 ^ 31) (hpc : pc ≤ 4) (K : HKA S tc r M cn pc J Tm Bq Wq) : ∀ (d b nf n : Nat) (m : rn_Mem), b + d = S 1 → d + 402000 < nf → n + gs (fun a b => a + b) 0 (sLb S tc r Wq) (S 1) < BBd + gs (fun a b => a + b) 0 (sLb S tc r Wq) b → EF S r m → J m n → RM S tc M cn pc m → ∃ m2 n2, mo_findPlays_l294 a3 nf (nI b) m = some m2 ∧ J m2 n2 ∧ Kwi m m2 ∧ (∀ i, Tm i m2 ↔ Tm i m ∨ ∃ c w p, b ≤ c ∧ c < S 1 ∧ bgn S c ∧ FT S w ∧ (∀ j, S 2 ≤ j → w j = 0) ∧ OKQ S (XT S tc (XF S r)) w c p ∧ (∀ j, S 2 ≤ j → p j = 0) ∧ Bq i w c p) ∧ n2 + gs (fun a b => a + b) 0 (sLb S tc r Wq) b = n + gs (fun a b => a + b) 0 (sLb S tc r Wq) (S 1) := by
  have w1 : 2 ≤ S 1 := wg.1
  have w2 : S 1 ≤ 4 := wg.2.1
  have w8 : S 8 < S 1 ∨ S 8 = 4 := wg.2.2.2.2.2.2.2.2.2.2.1
  intro d
  induction d with
  | zero =>
    intro b nf n m e hnf hB hE hJ hR
    obtain ⟨nf, rfl⟩ : ∃ e, nf = e + 1 := ⟨nf - 1, by omega⟩
    obtain rfl : b = S 1 := by omega
    have z1 : m.1 116 1 = nI (S 1) := hE.1.1.1 1 (by omega) (by omega) (by omega) (by omega)
    refine ⟨m, n, by rw [mo_findPlays_l294, z1, if_neg (by rw [nI_ltI (by omega) (by omega)]; omega)], hJ, Kwi.rf, fun i => ⟨Or.inl, fun h => h.elim id fun ⟨c, w, p, h1, h2, _⟩ => by omega⟩, rfl⟩
  | succ d ih =>
    intro b nf n m e hnf hB hE hJ hR
    obtain ⟨nf, rfl⟩ : ∃ e, nf = e + 1 := ⟨nf - 1, by omega⟩
    have z1 : m.1 116 1 = nI (S 1) := hE.1.1.1 1 (by omega) (by omega) (by omega) (by omega)
    by_cases yd : dn m
    · have h3 : ∀ c w, c < S 1 → FT S w → ∀ p, OKQ S (XT S tc (XF S r)) w c p → (∀ i, Bq i w c p → Tm i m) ∧ Wq w c p = 0 := fun c w hc hw => (K.2 w c hw hc).1.2.2.2.1 m n hJ yd
      refine ⟨m, n, ?_, hJ, Kwi.rf, fun i => ⟨Or.inl, fun h => h.elim id fun ⟨c, w, p, _, h1, _, h2, _, h4, _, h6⟩ => (h3 c w h1 h2 p h4).1 i h6⟩, ?_⟩
      · rw [mo_findPlays_l294, z1, if_pos (by rw [nI_ltI (by omega) (by omega)]; omega), done_y yd, Option.bind_some]
        rfl
      · rw [show S 1 = b + (d + 1) by omega, gs_zero fun c h1 h2 => ?_]
        unfold sLb
        by_cases hb : bgn S c
        · rw [ifc_p hb]
          refine NS_z fun w _ => ?_
          unfold sLn
          by_cases hw : FT S w
          · rw [ifc_p hw]
            refine NS_z fun p _ => ?_
            unfold phi
            by_cases q : OKQ S (XT S tc (XF S r)) w c p
            · rw [ifc_p q]; exact (h3 c w (by omega) hw p q).2
            · rw [ifc_n q]
          · rw [ifc_n hw]
        · rw [ifc_n hb]
    have hmo := gs_mo (f := sLb S tc r Wq) (show b + 1 ≤ S 1 by omega)
    rw [gs] at hmo
    have z8 : m.1 116 8 = zT (S 8) := hE.1.1.2.2.1
    have hstep : ∃ m105 n105, (if (m.1 116 8) < 0 then (mo_findWinners nf (nI b) m).bind fun m98 => some m98 else if (m.1 116 8) = nI b then (mo_findWinners nf (nI b) m).bind fun m101 => some m101 else some m) = some m105 ∧ J m105 n105 ∧ Kwi m m105 ∧ (∀ i, Tm i m105 ↔ Tm i m ∨ ∃ w p, bgn S b ∧ FT S w ∧ (∀ j, S 2 ≤ j → w j = 0) ∧ OKQ S (XT S tc (XF S r)) w b p ∧ (∀ j, S 2 ≤ j → p j = 0) ∧ Bq i w b p) ∧ n105 = n + sLb S tc r Wq b := by
      rw [z8]
      by_cases hb : bgn S b
      · have hs1 : sLb S tc r Wq b = NS (fun a b => a + b) 0 (S 1) (S 2) (fun _ => 0) (sLn S tc r Wq b) := by unfold sLb; rw [ifc_p hb]
        obtain ⟨m2, n2, g1, g2, g3, g4, g5⟩ := fw_sp (nf := nf) (m := m) (by omega) wg wt wc h9 hr htc hX (show b < S 1 by omega) hM hpc K (by rw [← hs1]; omega) hE hJ hR
        refine ⟨m2, n2, ?_, g2, g3, fun i => ?_, ?_⟩
        · rw [g1, Option.bind_some]
          by_cases y : 4 ≤ S 8
          · rw [if_pos (zT_lt.mpr y)]
          · rw [if_neg (fun t => y (zT_lt.mp t)), if_pos ((zT_eqn (by omega) (by omega)).mpr (hb.elim (fun t => by omega) fun t => t.symm))]
        · rw [g4 i]
          exact ⟨fun h => h.elim Or.inl fun ⟨w, p, h⟩ => Or.inr ⟨w, p, hb, h⟩, fun h => h.elim Or.inl fun ⟨w, p, _, h⟩ => Or.inr ⟨w, p, h⟩⟩
        · rw [hs1]; exact g5
      · refine ⟨m, n, ?_, hJ, Kwi.rf, fun i => ⟨Or.inl, fun h => h.elim id fun ⟨w, p, h, _⟩ => absurd h hb⟩, ?_⟩
        · rw [if_neg (fun t => hb (Or.inl (by have := zT_lt.mp t; omega))), if_neg (fun t => hb (Or.inr ((zT_eqn (by omega) (by omega)).mp t).symm))]
        · unfold sLb; rw [ifc_n hb]; rfl
    obtain ⟨m105, n105, s1, s2, s3, s4, s5⟩ := hstep
    obtain ⟨m2, n2, i1, i2, i3, i4, i5⟩ := ih (b + 1) nf n105 m105 (by omega) (by omega) (by rw [gs, s5]; omega) (EF_k hE s3) s2 (RM_k hR fun i hi => s3.2.1 i (by omega))
    refine ⟨m2, n2, ?_, i2, s3.tr i3, fun i => ?_, ?_⟩
    · rw [mo_findPlays_l294, z1, if_pos (by rw [nI_ltI (by omega) (by omega)]; omega), done_n yd, Option.bind_some]
      try simp only []
      rw [if_pos trivial, s1, Option.bind_some, nI_1, Option.bind_some]
      exact i1
    · rw [i4 i, s4 i]
      constructor
      · rintro ((h | ⟨w, p, p1, p2⟩) | ⟨c, w, p, p1, p2⟩)
        · exact Or.inl h
        · exact Or.inr ⟨b, w, p, Nat.le_refl b, by omega, p1, p2⟩
        · exact Or.inr ⟨c, w, p, by omega, p2⟩
      · rintro (h | ⟨c, w, p, p1, p2, p3, p4⟩)
        · exact Or.inl (Or.inl h)
        · by_cases z : c = b
          · subst z
            exact Or.inl (Or.inr ⟨w, p, p3, p4⟩)
          · exact Or.inr ⟨c, w, p, by omega, p2, p3, p4⟩
    · rw [gs, s5] at i5
      omega
