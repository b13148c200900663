/-! THE REFERENCE'S SEARCH: findPlays -/
theorem XF_SX {S : Nat → Nat} (wg : WG S) (wt : WT S) (h9 : S 9 = 1) {r : Nat} (hr : r < fac (uc S)) : SX S (XF S r) := by
  have w1 : 2 ≤ S 1 := wg.1
  have w2 : S 1 ≤ 4 := wg.2.1
  have hu : uc S ≤ 3 := (wt.2 h9).2.2.2.2
  have hs : ∀ c, c < S 1 → S (12 + c) ≤ 12 := fun c hc => sz_12 wg wt h9 hc
  have hmm : ∀ c, c < S 1 → S (12 + c) = S 1 * mmS S c := fun c hc => by
    have := (wt.2 h9).1 c hc
    unfold mmS
    rw [Nat.mul_comm]; exact this
  have hsl : ∀ c i, c < S 1 → i < S (12 + c) → i / S 1 < mmS S c ∧ i % S 1 < S 1 ∧ 12 * c + S 1 * (i / S 1) + i % S 1 = 12 * c + i := fun c i hc hi => by
    have hda := Nat.div_add_mod i (S 1)
    refine ⟨?_, Nat.mod_lt _ (by omega), by omega⟩
    refine Classical.byContradiction fun n => ?_
    have h1 : S 1 * mmS S c ≤ S 1 * (i / S 1) := Nat.mul_le_mul_left _ (by omega)
    rw [← hmm c hc] at h1
    omega
  intro x hx hp
  by_cases y : snS S x = true
  · obtain ⟨c, i, h1, h2, h3⟩ := (sn_iff w2 hs).mp y
    obtain ⟨s1, s2, s3⟩ := hsl c i h1 h2
    refine ⟨c, i / S 1, i % S 1, h1, s1, s2, ?_⟩
    unfold XF
    rw [s3, show 16 + (12 * c + i) = 16 + 12 * c + i by omega, h3, if_pos hx]
  · have hm : msS S x = true := by unfold msS; rw [hp, Bool.true_and, Bool.not_eq_true']; exact Bool.not_eq_true _ |>.mp y
    have hlt : fb_ct (msS S) x < uc S := by
      rw [← msc_16 wg wt h9]
      have h1 := fb_ct_succ (msS S) x
      rw [if_pos hm] at h1
      have := fb_ct_mono (msS S) (show x + 1 ≤ 16 by omega)
      omega
    obtain ⟨t, ht, e⟩ := od_sur (by omega) hr hlt
    obtain ⟨n1, n2, n3⟩ := nth_sp (p := unS S) (s := t) (N := 48) (by rw [un_48 wg wt h9]; exact ht)
    generalize nth (unS S) t 48 = p at n1 n2 n3
    have n2' := n2
    unfold unS vlS at n2
    rw [Bool.and_eq_true, decide_eq_true_iff, decide_eq_true_iff] at n2
    obtain ⟨s1, s2, s3⟩ := hsl (p / 12) (p % 12) n2.1.1 n2.1.2
    have ep : 12 * (p / 12) + p % 12 = p := Nat.div_add_mod p 12
    refine ⟨p / 12, p % 12 / S 1, p % 12 % S 1, n2.1.1, s1, s2, ?_⟩
    unfold XF
    rw [s3, ep, if_neg (by omega), n3, e]
    exact nth_of hm hx
theorem XT_SX {S : Nat → Nat} {X : Nat → Nat → Nat → Nat} {tc : Nat} (h : SX S X) : SX S (XT S tc X) := by
  intro x hx hp
  obtain ⟨c, i, j, h1, h2, h3, h4⟩ := h x hx hp
  by_cases y : c = tc ∧ c < 4
  · refine ⟨c, mmS S c - 1 - i, j, h1, by omega, h3, ?_⟩
    unfold XT
    rw [if_pos y, show mmS S c - 1 - (mmS S c - 1 - i) = i by omega]
    exact h4
  · refine ⟨c, i, j, h1, h2, h3, ?_⟩
    unfold XT
    rw [if_neg y]
    exact h4
def Kpl (m m2 : rn_Mem) : Prop := (∀ p, p ≠ 115 → ¬ (119 ≤ p ∧ p ≤ 137) → m2.1 p = m.1 p) ∧ (∀ i, i ≠ 15 → i ≠ 21 → m2.1 115 i = m.1 115 i) ∧ ∀ p i, ¬ (p = 115 ∧ i = 14) → m2.2 p i = m.2 p i
theorem Kpl.rf {m : rn_Mem} : Kpl m m := ⟨fun _ _ _ => rfl, fun _ _ _ => rfl, fun _ _ _ => rfl⟩
theorem Kpl.tr {m m1 m2 : rn_Mem} (h : Kpl m m1) (h2 : Kpl m1 m2) : Kpl m m2 := ⟨fun p a b => by rw [h2.1 p a b, h.1 p a b], fun i a b => by rw [h2.2.1 i a b, h.2.1 i a b], fun p i a => by rw [h2.2.2 p i a, h.2.2 p i a]⟩
theorem Kwi.p {m m2 : rn_Mem} (h : Kwi m m2) : Kpl m m2 := ⟨fun p a b => h.1 p a (by omega) (by omega) (by omega), fun i a _ => h.2.1 i a, h.2.2⟩
/-- how a run keeps what it finds, over all fillings -/
def HKR {ι : Type} (S : Nat → Nat) (tc M : Nat) (cn : Bool) (pc : Nat) (J : rn_Mem → Nat → Prop) (Tm : ι → rn_Mem → Prop) (Bq : Nat → ι → (Nat → Nat) → Nat → (Nat → Nat) → Prop) (Wq : Nat → (Nat → Nat) → Nat → (Nat → Nat) → Nat) : Prop := (∀ m m2 n, Fr m m2 → J m n → J m2 n ∧ ∀ i, Tm i m2 ↔ Tm i m) ∧ (∀ r w b, r < fac (uc S) → FT S w → b < S 1 → HK S (XT S tc (XF S r)) w b M cn pc (fun m => EW S r w m ∧ COQ S (XT S tc (XF S r)) w b M) J Tm (fun i => Bq r i w b) (Wq r w b) ∧ (¬ COQ S (XT S tc (XF S r)) w b M → ∀ p, OKQ S (XT S tc (XF S r)) w b p → (∀ i, ¬ Bq r i w b p) ∧ Wq r w b p = 0))
noncomputable def sLr (S : Nat → Nat) (tc : Nat) (Wq : Nat → (Nat → Nat) → Nat → (Nat → Nat) → Nat) (r : Nat) : Nat := gs (fun a b => a + b) 0 (sLb S tc r (Wq r)) (S 1)
theorem fp_l228 {ι : Type} {S : Nat → Nat} {tc M pc : Nat} {cn : Bool} {J : rn_Mem → Nat → Prop} {Tm : ι → rn_Mem → Prop} {Bq : Nat → ι → (Nat → Nat) → Nat → (Nat → Nat) → Prop} {Wq : Nat → (Nat → Nat) → Nat → (Nat → Nat) → Nat} (wg : WG S) (wt : WT S) (wc : WC S) (h9 : S 9 = 1) (htc : tc ≤ 4) (hM : M < 2 ^ 31) (hpc : pc ≤ 4) (K : HKR S tc M cn pc J Tm Bq Wq) : ∀ (d r nf n : Nat) (m : rn_Mem), r + d = fac (uc S) → d + 403000 < nf → n + gs (fun a b => a + b) 0 (sLr S tc Wq) (fac (uc S)) < BBd + gs (fun a b => a + b) 0 (sLr S tc Wq) r → RL S m → J m n → RM S tc M cn pc m → ∃ m2 n2, mo_findPlays_l228 nf (nI r) m = some m2 ∧ RL S m2 ∧ J m2 n2 ∧ Kpl m m2 ∧ (∀ i, Tm i m2 ↔ Tm i m ∨ ∃ x c w p, r ≤ x ∧ x < fac (uc S) ∧ c < S 1 ∧ bgn S c ∧ FT S w ∧ (∀ j, S 2 ≤ j → w j = 0) ∧ OKQ S (XT S tc (XF S x)) w c p ∧ (∀ j, S 2 ≤ j → p j = 0) ∧ Bq x i w c p) ∧ n2 + gs (fun a b => a + b) 0 (sLr S tc Wq) r = n + gs (fun a b => a + b) 0 (sLr S tc Wq) (fac (uc S)) := by
  have w2 : S 1 ≤ 4 := wg.2.1
  have hu : uc S ≤ 3 := (wt.2 h9).2.2.2.2
  have hf6 := fac_6 (uc S) (by omega)
  intro d
  induction d with
  | zero =>
    intro r nf n m e hnf hB hL hJ hR
    obtain ⟨nf, rfl⟩ : ∃ e, nf = e + 1 := ⟨nf - 1, by omega⟩
    obtain rfl : r = fac (uc S) := by omega
    refine ⟨m, n, ?_, hL, hJ, Kpl.rf, fun i => ⟨Or.inl, fun h => h.elim id fun ⟨x, c, w, p, h1, h2, _⟩ => by omega⟩, rfl⟩
    rw [mo_findPlays_l228, hL.2.2.1, ordersOf_sp (by omega) (by omega), Option.bind_some]
    try simp only []
    rw [if_neg (by rw [nI_ltI (by omega) (by omega)]; omega)]
  | succ d ih =>
    intro r nf n m e hnf hB hL hJ hR
    obtain ⟨nf, rfl⟩ : ∃ e, nf = e + 1 := ⟨nf - 1, by omega⟩
    by_cases yd : dn m
    · have h3 : ∀ x c w, x < fac (uc S) → c < S 1 → FT S w → ∀ p, OKQ S (XT S tc (XF S x)) w c p → (∀ i, Bq x i w c p → Tm i m) ∧ Wq x w c p = 0 := fun x c w hx hc hw => (K.2 x w c hx hw hc).1.2.2.2.1 m n hJ yd
      refine ⟨m, n, ?_, hL, hJ, Kpl.rf, fun i => ⟨Or.inl, fun h => h.elim id fun ⟨x, c, w, p, _, h0, h1, _, h2, _, h4, _, h6⟩ => (h3 x c w h0 h1 h2 p h4).1 i h6⟩, ?_⟩
      · rw [mo_findPlays_l228, hL.2.2.1, ordersOf_sp (by omega) (by omega), Option.bind_some]
        try simp only []
        rw [if_pos (by rw [nI_ltI (by omega) (by omega)]; omega), done_y yd, Option.bind_some]
        rfl
      · rw [show fac (uc S) = r + (d + 1) by omega, gs_zero fun x h1 h2 => ?_]
        unfold sLr
        refine gs_e CM_nat fun c hc => ?_
        unfold sLb
        by_cases hb : bgn S c
        · rw [ifc_p hb]
          refine NS_z fun w _ => ?_
          unfold sLn
          by_cases hw : FT S w
          · rw [ifc_p hw]
            refine NS_z fun p _ => ?_
            unfold phi
            by_cases q : OKQ S (XT S tc (XF S x)) w c p
            · rw [ifc_p q]; exact (h3 x c w (by omega) hc hw p q).2
            · rw [ifc_n q]
          · rw [ifc_n hw]
        · rw [ifc_n hb]
    have hr : r < fac (uc S) := by omega
    have hmo := gs_mo (f := sLr S tc Wq) (show r + 1 ≤ fac (uc S) by omega)
    rw [gs] at hmo
    obtain ⟨m88, a1, a2, a3, a4, a5⟩ := fp_l249 wg wt hr (uc S) 0 nf m (by omega) (by omega) hL (fun t ht => absurd ht (Nat.not_lt_zero t))
    have kp88 : Kpl m m88 := ⟨fun p _ h => a5 p (by omega), fun i _ _ => by rw [a5 115 (by omega)], fun p i _ => by rw [a4]⟩
    obtain ⟨j1, j2⟩ := K.1 m m88 n ⟨a4, a5 115 (by omega), fun p h1 h2 => a5 p (by omega)⟩ hJ
    have hX := XT_SX (tc := tc) (XF_SX wg wt h9 hr)
    obtain ⟨m108, n108, b1, b2, b3, b4, b5⟩ := fp_l294 (a3 := nI r) wg wt wc h9 hr htc hX hM hpc ⟨K.1, fun w b hw hb => K.2 r w b hr hw hb⟩ (S 1) 0 nf n m88 (by omega) (by omega) (by rw [gs, Nat.add_zero, show gs (fun a b => a + b) 0 (sLb S tc r (Wq r)) (S 1) = sLr S tc Wq r from rfl]; omega) ⟨a2, a3⟩ j1 (RM_k hR fun i _ => by rw [a5 115 (by omega)])
    rw [gs, Nat.add_zero] at b5
    have kp : Kpl m m108 := kp88.tr b3.p
    have hL2 : RL S m108 := (EF_k ⟨a2, a3⟩ b3).1
    obtain ⟨m2, n2, i1, iL, i2, i3, i4, i5⟩ := ih (r + 1) nf n108 m108 (by omega) (by omega) (by rw [gs, show n108 = n + sLr S tc Wq r from b5]; omega) hL2 b2 (RM_k hR fun i hi => kp.2.1 i (by omega) (by omega))
    refine ⟨m2, n2, ?_, iL, i2, kp.tr i3, fun i => ?_, ?_⟩
    · rw [mo_findPlays_l228, hL.2.2.1, ordersOf_sp (by omega) (by omega), Option.bind_some]
      try simp only []
      rw [if_pos (by rw [nI_ltI (by omega) (by omega)]; omega), done_n yd, Option.bind_some]
      try simp only []
      rw [if_pos trivial, show mo_findPlays_l249 (nI r) nf 0 m = some m88 from a1, Option.bind_some, show mo_findPlays_l294 (nI r) nf 0 m88 = some m108 from b1, Option.bind_some, nI_1, Option.bind_some]
      exact i1
    · rw [i4 i, b4 i, j2 i]
      constructor
      · rintro ((h | ⟨c, w, p, p1, p2⟩) | ⟨x, c, w, p, p1, p2⟩)
        · exact Or.inl h
        · exact Or.inr ⟨r, c, w, p, Nat.le_refl r, hr, p2⟩
        · exact Or.inr ⟨x, c, w, p, by omega, p2⟩
      · rintro (h | ⟨x, c, w, p, p1, p2, p3⟩)
        · exact Or.inl (Or.inl h)
        · by_cases z : x = r
          · subst z
            exact Or.inl (Or.inr ⟨c, w, p, Nat.zero_le c, p3⟩)
          · exact Or.inr ⟨x, c, w, p, by omega, p2, p3⟩
    · rw [gs, show n108 = n + sLr S tc Wq r from b5] at i5
      omega
theorem fp_l13 : ∀ (r x nf : Nat) (m : rn_Mem), x + r = 16 → r < nf → (∀ y, y < x → m.1 120 y = 0) → ∃ m2, mo_findPlays_l13 nf (nI x) m = some m2 ∧ (∀ y, y < 16 → m2.1 120 y = 0) ∧ m2.2 = m.2 ∧ ∀ p, p ≠ 120 → m2.1 p = m.1 p := by
  intro r
  induction r with
  | zero =>
    intro x nf m e hnf h
    obtain ⟨nf, rfl⟩ : ∃ e, nf = e + 1 := ⟨nf - 1, by omega⟩
    obtain rfl : x = 16 := by omega
    exact ⟨m, by rw [mo_findPlays_l13, if_neg (by decide)], h, rfl, fun _ _ => rfl⟩
  | succ r ih =>
    intro x nf m e hnf h
    obtain ⟨nf, rfl⟩ : ∃ e, nf = e + 1 := ⟨nf - 1, by omega⟩
    generalize hm4 : rm_i m 120 x 0 = m4
    obtain ⟨m2, p1, p2, p3, p4⟩ := ih (x + 1) nf m4 (by omega) (by omega) (fun y hy => by
      rw [← hm4, mi_get]
      by_cases z : y = x
      · rw [if_pos ⟨rfl, z⟩]
      · rw [if_neg (fun t => z t.2)]; exact h y (by omega))
    refine ⟨m2, ?_, p2, by rw [p3, ← hm4, mi_2], fun p hp => by rw [p4 p hp, ← hm4]; funext i; rw [mi_get, if_neg (fun t => hp t.1)]⟩
    rw [mo_findPlays_l13, show (16 : Int32) = nI 16 from rfl, if_pos (by rw [nI_ltI (by omega) (by omega)]; omega), if_pos ((in_n (by omega)).mpr (by omega)), nI_n (by omega), hm4, Option.bind_some, nI_1, Option.bind_some]
    exact p1
theorem fp_l34 : ∀ (r x nf : Nat) (m : rn_Mem), x + r = 4 → r < nf → (∀ y, y < x → m.1 122 y = 0 ∧ m.1 123 y = 0) → ∃ m2, mo_findPlays_l34 nf (nI x) m = some m2 ∧ (∀ y, y < 4 → m2.1 122 y = 0 ∧ m2.1 123 y = 0) ∧ m2.2 = m.2 ∧ ∀ p, p ≠ 122 → p ≠ 123 → m2.1 p = m.1 p := by
  intro r
  induction r with
  | zero =>
    intro x nf m e hnf h
    obtain ⟨nf, rfl⟩ : ∃ e, nf = e + 1 := ⟨nf - 1, by omega⟩
    obtain rfl : x = 4 := by omega
    exact ⟨m, by rw [mo_findPlays_l34, if_neg (by decide)], h, rfl, fun _ _ _ => rfl⟩
  | succ r ih =>
    intro x nf m e hnf h
    obtain ⟨nf, rfl⟩ : ∃ e, nf = e + 1 := ⟨nf - 1, by omega⟩
    generalize hm4 : rm_i (rm_i m 122 x 0) 123 x 0 = m4
    obtain ⟨m2, p1, p2, p3, p4⟩ := ih (x + 1) nf m4 (by omega) (by omega) (fun y hy => by
      rw [← hm4, mi_get, if_neg (by omega), mi_get, mi_get]
      by_cases z : y = x
      · rw [if_pos ⟨rfl, z⟩, if_pos ⟨rfl, z⟩]; exact ⟨rfl, rfl⟩
      · rw [if_neg (fun t => z t.2), if_neg (fun t => z t.2), mi_get, if_neg (by omega)]; exact h y (by omega))
    refine ⟨m2, ?_, p2, by rw [p3, ← hm4, mi_2, mi_2], fun p hp hp2 => by rw [p4 p hp hp2, ← hm4]; funext i; rw [mi_get, if_neg (fun t => hp2 t.1), mi_get, if_neg (fun t => hp t.1)]⟩
    rw [mo_findPlays_l34, show (4 : Int32) = nI 4 from rfl, if_pos (by rw [nI_ltI (by omega) (by omega)]; omega), if_pos ((in_n (by omega)).mpr (by omega)), nI_n (by omega), Option.bind_some, if_pos ((in_n (by omega)).mpr (by omega)), hm4, Option.bind_some, nI_1, Option.bind_some]
    exact p1
/-- nothing found yet -/
def IN0 (S : Nat → Nat) (m : rn_Mem) : Prop := m.2 115 14 = 0 ∧ m.1 115 15 = -4 ∧ (∀ x, x < 16 → m.1 120 x = 0) ∧ (∀ t, t < uc S → m.1 121 t = 0) ∧ ∀ k, k < 4 → m.1 122 k = 0 ∧ m.1 123 k = 0
theorem RF_RL {S : Nat → Nat} {M : Nat} {m : rn_Mem} (wg : WG S) (wt : WT S) (h9 : S 9 = 1) (h : RF S M (12 * S 1) m) : m.1 115 21 = nI (uc S) ∧ (∀ p, vlS S p = true → p < 48 → S (16 + p) < 16 → m.1 127 p = nI (S (16 + p))) ∧ (∀ s, s < uc S → m.1 125 s = nI (nth (unS S) s 48)) ∧ (∀ t, t < uc S → m.1 121 t = 0) ∧ M < 65536 ∧ ∀ x, x < 16 → M.testBit x = msS S x := by
  have w2 : S 1 ≤ 4 := wg.2.1
  obtain ⟨r1, r2, r3, r4, r5, r6⟩ := h
  have hvl : ∀ p, vlS S p = true → p < 12 * S 1 := fun p hp => by
    unfold vlS at hp
    rw [decide_eq_true_iff] at hp
    omega
  have hun : ∀ p, unS S p = true → vlS S p = true := fun p hp => by
    unfold unS at hp
    rw [Bool.and_eq_true] at hp
    exact hp.1
  have h48 : fb_ct (unS S) (12 * S 1) = uc S := by
    rw [← un_48 wg wt h9, show 48 = 12 * S 1 + (48 - 12 * S 1) by omega, fb_ct_split, show fb_ct (fun k => unS S (12 * S 1 + k)) (48 - 12 * S 1) = 0 from fb_ct_zero.mpr fun k _ => ?_]
    · rfl
    · cases e : unS S (12 * S 1 + k) with
      | false => rfl
      | true => exact absurd (hvl _ (hun _ e)) (by omega)
  rw [h48] at r1 r4
  refine ⟨r1, fun p h1 _ h3 => r2 p (hvl p h1) h1 h3, fun s hs => ?_, r4, r5, fun x hx => ?_⟩
  · obtain ⟨n1, n2, n3⟩ := nth_sp (p := unS S) (s := s) (N := 48) (by rw [un_48 wg wt h9]; exact hs)
    have := r3 _ (hvl _ (hun _ n2)) n2
    rw [n3] at this
    exact this
  · rw [bo_x, r6 x hx]
    unfold msS
    rw [Bool.and_eq_true, Bool.not_eq_true']
    refine and_congr Iff.rfl ?_
    unfold snS
    rw [decide_eq_false_iff_not, fb_ct_pos]
    constructor
    · rintro h ⟨k, k1, k2⟩
      unfold atS at k2
      rw [Bool.and_eq_true, decide_eq_true_iff] at k2
      exact h k (hvl k k2.1) k2.1 k2.2
    · intro h r hr hv e
      exact h ⟨r, by omega, by unfold atS; rw [hv, decide_eq_true e]; rfl⟩
theorem fp_sp {ι : Type} {S : Nat → Nat} {tc M pc nf : Nat} {cn : Bool} {J : rn_Mem → Nat → Prop} {Tm : ι → rn_Mem → Prop} {Bq : Nat → ι → (Nat → Nat) → Nat → (Nat → Nat) → Prop} {Wq : Nat → (Nat → Nat) → Nat → (Nat → Nat) → Nat} {m : rn_Mem} (hnf : 404000 < nf) (wg : WG S) (wt : WT S) (wc : WC S) (h9 : S 9 = 1) (htc : tc ≤ 4) (hM : M < 2 ^ 31) (hpc : pc ≤ 4) (K : HKR S tc M cn pc J Tm Bq Wq) (hB : gs (fun a b => a + b) 0 (sLr S tc Wq) (fac (uc S)) < BBd) (hz : zOT S (m.1 116)) (hR : RM S tc M cn pc m) (hJ : ∀ m1, IN0 S m1 → Kpl m m1 → J m1 0) : ∃ m1 m2 n2, mo_findPlays nf m = some m2 ∧ RL S m2 ∧ IN0 S m1 ∧ Kpl m m1 ∧ J m2 n2 ∧ Kpl m m2 ∧ (∀ i, Tm i m2 ↔ Tm i m1 ∨ ∃ x c w p, x < fac (uc S) ∧ c < S 1 ∧ bgn S c ∧ FT S w ∧ (∀ j, S 2 ≤ j → w j = 0) ∧ OKQ S (XT S tc (XF S x)) w c p ∧ (∀ j, S 2 ≤ j → p j = 0) ∧ Bq x i w c p) ∧ n2 = gs (fun a b => a + b) 0 (sLr S tc Wq) (fac (uc S)) := by
  have w2 : S 1 ≤ 4 := wg.2.1
  have hu : uc S ≤ 3 := (wt.2 h9).2.2.2.2
  have hf6 := fac_6 (uc S) (by omega)
  have hs : ∀ c, c < S 1 → S (12 + c) ≤ 12 := fun c hc => sz_12 wg wt h9 hc
  generalize hma : rm_i (rm_j m 115 14 0) 115 15 (-4) = ma
  have fa1 : ∀ p, p ≠ 115 → ma.1 p = m.1 p := fun p hp => by rw [← hma]; funext i; rw [mi_get, if_neg (fun t => hp t.1), mj_1]
  have fa2 : ∀ i, i ≠ 15 → ma.1 115 i = m.1 115 i := fun i hi => by rw [← hma, mi_get, if_neg (fun t => hi t.2), mj_1]
  have fa3 : ma.1 115 15 = -4 := by rw [← hma, mi_get, if_pos ⟨rfl, rfl⟩]
  have fa4 : ∀ p i, ma.2 p i = if p = 115 ∧ i = 14 then 0 else m.2 p i := fun p i => by rw [← hma, mi_2, mj_get]
  obtain ⟨m7, b1, b2, b3, b4⟩ := fp_l13 16 0 nf ma (by omega) (by omega) (fun y hy => absurd hy (Nat.not_lt_zero y))
  obtain ⟨m18, c1, c2, c3, c4⟩ := fp_l34 4 0 nf m7 (by omega) (by omega) (fun y hy => absurd hy (Nat.not_lt_zero y))
  generalize hm23 : rm_i m18 115 21 0 = m23
  have fb1 : ∀ p, p ≠ 115 → m23.1 p = m18.1 p := fun p hp => by rw [← hm23]; funext i; rw [mi_get, if_neg (fun t => hp t.1)]
  have fb2 : ∀ i, i ≠ 21 → m23.1 115 i = m18.1 115 i := fun i hi => by rw [← hm23, mi_get, if_neg (fun t => hi t.2)]
  have e116 : m23.1 116 = m.1 116 := by rw [fb1 116 (by omega), c4 116 (by omega) (by omega), b4 116 (by omega), fa1 116 (by omega)]
  have e2 : m23.2 = ma.2 := by rw [← hm23, mi_2, c3, b3]
  have hRF : RF S (S 3) (12 * 0) m23 := by
    refine ⟨by rw [← hm23, mi_get, if_pos ⟨rfl, rfl⟩]; rfl, fun r hr => absurd hr (Nat.not_lt_zero r), fun r hr => absurd hr (Nat.not_lt_zero r), fun t ht => absurd ht (Nat.not_lt_zero t), wg.2.2.2.2.2.1, fun x hx => ⟨fun h => ⟨h, fun r hr => absurd hr (Nat.not_lt_zero r)⟩, fun h => h.1⟩⟩
  obtain ⟨M2, m50, d1, d2, d3⟩ := fp_l73 w2 hs (fun c i hc hi => ((wt.2 h9).2.2.1 c i hc hi).1) (by rw [un_48 wg wt h9]; exact hu) (S 1) 0 nf (S 3) m23 (by omega) (by omega) (by rw [e116]; exact hz) hRF
  obtain ⟨r1, r2, r3, r4, r5, r6⟩ := RF_RL wg wt h9 d2
  obtain ⟨m65, g1, g2, g3, g4⟩ := fp_l195 (D := M2) (q := msS S) (by omega) r6 (by rw [msc_16 wg wt h9]; exact hu) 16 0 nf m50 (by omega) (by omega) (fun y hy => absurd hy (Nat.not_lt_zero y))
  have hL : RL S m65 := by
    refine ⟨?_, h9, ?_, ?_, ?_, fun s hs => ?_⟩
    · rw [g4 116 (by omega), show m50.1 116 = m23.1 116 from funext fun i => d3.2 116 i (by omega), e116]; exact hz
    · rw [g4 115 (by omega)]; exact r1
    · rw [g4 127 (by omega)]; exact r2
    · rw [g4 125 (by omega)]; exact r3
    · obtain ⟨n1, n2, n3⟩ := nth_sp (p := msS S) (s := s) (N := 16) (by rw [msc_16 wg wt h9]; exact hs)
      have := g2 _ n1 n2
      rw [n3] at this
      exact this
  have kp : Kpl m m65 := by
    refine ⟨fun p h1 h2 => ?_, fun i h1 h2 => ?_, fun p i h => ?_⟩
    · rw [g4 p (by omega), show m50.1 p = m23.1 p from funext fun i => d3.2 p i (by omega), fb1 p h1, c4 p (by omega) (by omega), b4 p (by omega), fa1 p h1]
    · rw [g4 115 (by omega), d3.2 115 i (by omega), fb2 i h2, c4 115 (by omega) (by omega), b4 115 (by omega), fa2 i h1]
    · rw [g3, d3.1, e2, fa4, if_neg h]
  have hin : IN0 S m65 := by
    refine ⟨?_, ?_, fun x hx => ?_, fun t ht => ?_, fun k hk => ?_⟩
    · rw [g3, d3.1, e2, fa4, if_pos ⟨rfl, rfl⟩]
    · rw [g4 115 (by omega), d3.2 115 15 (by omega), fb2 15 (by omega), c4 115 (by omega) (by omega), b4 115 (by omega), fa3]
    · rw [g4 120 (by omega), d3.2 120 x (by omega), fb1 120 (by omega), c4 120 (by omega) (by omega)]; exact b2 x hx
    · rw [g4 121 (by omega)]; exact r4 t ht
    · rw [g4 122 (by omega), g4 123 (by omega), d3.2 122 k (by omega), d3.2 123 k (by omega), fb1 122 (by omega), fb1 123 (by omega)]; exact c2 k hk
  obtain ⟨m2, n2, i1, iL, i2, i3, i4, i5⟩ := fp_l228 wg wt wc h9 htc hM hpc K (fac (uc S)) 0 nf 0 m65 (by omega) (by omega) (by rw [Nat.zero_add, gs, Nat.add_zero]; exact hB) hL (hJ m65 hin kp) (RM_k hR fun i hi => kp.2.1 i (by omega) (by omega))
  refine ⟨m65, m2, n2, ?_, iL, hin, kp, i2, kp.tr i3, fun i => ?_, ?_⟩
  · have z3 : m23.1 116 3 = nI (S 3) := by rw [e116]; exact hz.1 3 (by omega) (by omega) (by omega) (by omega)
    rw [mo_findPlays, Option.bind_some, Option.bind_some, hma, show mo_findPlays_l13 nf 0 ma = some m7 from b1, Option.bind_some, show mo_findPlays_l34 nf 0 m7 = some m18 from c1, Option.bind_some, hm23, Option.bind_some, Option.bind_some, z3, show mo_findPlays_l73 nf (nI (S 3)) 0 m23 = some (nI M2, m50) from d1, Option.bind_some]
    try simp only []
    rw [show mo_findPlays_l195 (nI M2) nf 0 0 m50 = some m65 from g1, Option.bind_some, show mo_findPlays_l228 nf 0 m65 = some m2 from i1, Option.bind_some]
  · rw [i4 i]
    exact ⟨fun h => h.elim Or.inl fun ⟨x, c, w, p, _, h⟩ => Or.inr ⟨x, c, w, p, h⟩, fun h => h.elim Or.inl fun ⟨x, c, w, p, h⟩ => Or.inr ⟨x, c, w, p, Nat.zero_le x, h⟩⟩
  · rw [gs, Nat.add_zero, Nat.zero_add] at i5
    exact i5
