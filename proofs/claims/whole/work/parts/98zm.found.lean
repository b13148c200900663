/-! THE REFERENCE'S SEARCH: its findings, over the lines -/
theorem ln_ex {S : Nat → Nat} {tc : Nat} {B : Nat → (Nat → Nat) → (Nat → Nat) → Prop} (wg : WG S) (wt : WT S) (h9 : S 9 = 1) (hB : ∀ r w u q p, agr S w u → agr S q p → B r w q → B r u p) : (∃ x c w p, x < fac (uc S) ∧ c < S 1 ∧ bgn S c ∧ FT S w ∧ (∀ j, S 2 ≤ j → w j = 0) ∧ OKQ S (XT S tc (XF S x)) w c p ∧ (∀ j, S 2 ≤ j → p j = 0) ∧ B x w p) ↔ ∃ r w q, r < fac (uc S) ∧ LN S (XR S tc r) w q ∧ B r w q := by
  have hm := mm_sum wg wt h9
  constructor
  · rintro ⟨x, c, w, p, h1, h2, h3, h4, _, h6, _, h8⟩
    exact ⟨x, w, p, h1, (LN_R wg hm).mpr ⟨c, h2, h3, h4, h6⟩, h8⟩
  · rintro ⟨r, w, q, h1, h2, h3⟩
    have a1 : agr S w (pat S w (fun _ => 0)) := pat_a
    have a2 : agr S q (pat S q (fun _ => 0)) := pat_a
    obtain ⟨c, c1, c2, c3, c4⟩ := (LN_R wg hm).mp (LN_g wg.2.2.1 a1 a2 h2)
    exact ⟨r, c, _, _, h1, c1, c2, c3, fun j hj => by unfold pat; rw [if_neg (by omega)], c4, fun j hj => by unfold pat; rw [if_neg (by omega)], hB r _ _ _ _ a1 a2 h3⟩
theorem GM_g {S : Nat → Nat} {X : Nat → Nat → Nat → Nat} {M : Nat} {w u q p : Nat → Nat} (h : agr S w u) (h2 : agr S q p) (hg : GM S X M w q) : GM S X M u p := by
  unfold GM at hg ⊢
  rw [← nbQ_g h h2 (Nat.le_refl _), ← bkQ_g h h2 (Nat.le_refl _)]
  exact hg
theorem DA_g {S : Nat → Nat} {X : Nat → Nat → Nat → Nat} {r : Nat} {w u q p : Nat → Nat} (h3 : 1 ≤ S 2) (h : agr S w u) (h2 : agr S q p) : ∀ i, DA S X r w q i → DA S X r u p i := by
  rintro ⟨_ | _ | _ | _ | _ | t, a, c⟩ hd
  · obtain ⟨ha, k, t, h4, h5, h6, h7⟩ := hd
    refine ⟨ha, k, t, h4, h5, ?_, ?_⟩
    · rw [← xcQ_g h h2 h4]; exact h6
    · rw [← ldQ_g h h2 h4]; exact h7
  · exact hd
  · obtain ⟨ha, hb⟩ := hd
    exact ⟨ha, by rw [← ldQ_g h h2 ha]; exact hb⟩
  · obtain ⟨ha, hb⟩ := hd
    exact ⟨ha, by rw [← h a ha]; exact hb⟩
  · show rwQ S X u p (S 2) ≤ c
    rw [← rwQ_g h3 h h2 (Nat.le_refl _)]
    exact hd
  · trivial
theorem BC_g {S : Nat → Nat} {X : Nat → Nat → Nat → Nat} {M pc y : Nat} {w u q p : Nat → Nat} (h : agr S w u) (h2 : agr S q p) (hg : BC S X M pc y w q) : BC S X M pc y u p := by
  unfold BC at hg ⊢
  rw [← nbQ_g h h2 (Nat.le_refl _), ← bkQ_g h h2 (Nat.le_refl _), ← byQ_g h h2 (Nat.le_refl _)]
  exact hg
theorem bk_full {S : Nat → Nat} {X : Nat → Nat → Nat → Nat} {w q : Nat → Nat} : bkQ S X w q (S 2) &&& (2 ^ S 10 - 1) = 0 ↔ bkQ S X w q (S 2) = 0 := by
  constructor
  · intro h
    rw [and_0] at h
    apply Nat.eq_of_testBit_eq
    intro x
    rw [Nat.zero_testBit]
    cases e : (bkQ S X w q (S 2)).testBit x with
    | false => rfl
    | true =>
      have hx : x < S 10 := by
        obtain ⟨j, _, _, j3⟩ := (bkQ_bit (Nat.le_refl _)).mp e
        rcases j3 with j3 | j3
        · obtain ⟨_, _, h, _⟩ := kBr_bit.mp j3; exact h
        · exact j3.1
      exact absurd ⟨e, by rw [Nat.testBit_two_pow_sub_one, decide_eq_true hx]⟩ (h x)
  · intro h
    rw [h, Nat.zero_and]
theorem GM_full {S : Nat → Nat} {X : Nat → Nat → Nat → Nat} {w q : Nat → Nat} : (LN S X w q ∧ GM S X (2 ^ S 10 - 1) w q) ↔ GL S X w q := by
  unfold GM GL
  rw [bk_full]
theorem ifc_NS {P : Prop} {n k : Nat} {w : Nat → Nat} {φ : (Nat → Nat) → Nat} : ifc P (NS (fun a b => a + b) 0 n k w φ) 0 = NS (fun a b => a + b) 0 n k w (fun w' => ifc P (φ w') 0) := by
  by_cases y : P
  · rw [ifc_p y]; exact NS_cong fun w' _ _ => (ifc_p y).symm
  · rw [ifc_n y]; exact (NS_z fun w' _ => ifc_n y).symm
theorem ifc_c {P Q : Prop} {a b : Nat} (h : P ↔ Q) : ifc P a b = ifc Q a b := by rw [propext h]
theorem gs_b {S : Nat → Nat} {X : Nat → Nat → Nat → Nat} {G : Prop} {w q : Nat → Nat} (wg : WG S) (hm : fb_sm (mmS S) (S 1) = S 2) : gs (fun a b => a + b) 0 (fun b => ifc (bgn S b) (ifc (FT S w) (ifc (OKQ S X w b q) (ifc G 1 0) 0) 0) 0) (S 1) = ifc (LN S X w q ∧ G) 1 0 := by
  by_cases y : LN S X w q
  · obtain ⟨b, b1, b2, b3, b4⟩ := (LN_R wg hm).mp y
    rw [gs_cong (g := fun i => if i = b then ifc G 1 0 else 0) fun c hc => ?_, gs_one CM_nat b1]
    · exact ifc_c ⟨fun h => ⟨y, h⟩, fun h => h.2⟩
    · by_cases e : c = b
      · rw [if_pos e, e, ifc_p (show bgn S b from b2), ifc_p (show FT S w from b3), ifc_p (show OKQ S X w b q from b4)]
      · rw [if_neg e]
        by_cases q1 : OKQ S X w c q
        · have h1 := ld_ok wg b3 b1 (show 0 < S 2 from wg.2.2.1) (b4 0 wg.2.2.1).2
          have h2 := ld_ok wg b3 hc (show 0 < S 2 from wg.2.2.1) (q1 0 wg.2.2.1).2
          rw [ldR] at h1 h2
          exact absurd (h2.symm.trans h1) e
        · rw [ifc_n q1]
          by_cases q2 : bgn S c
          · rw [ifc_p q2]
            by_cases q3 : FT S w
            · rw [ifc_p q3]
            · rw [ifc_n q3]
          · rw [ifc_n q2]
  · rw [ifc_n (show ¬ (LN S X w q ∧ G) from fun t => y t.1)]
    refine gs_e CM_nat fun c hc => ?_
    by_cases q2 : bgn S c
    · rw [ifc_p q2]
      by_cases q3 : FT S w
      · rw [ifc_p q3]
        by_cases q1 : OKQ S X w c q
        · exact absurd ((LN_R wg hm).mpr ⟨c, hc, q2, q3, q1⟩) y
        · rw [ifc_n q1]
      · rw [ifc_n q3]
    · rw [ifc_n q2]
theorem sLr_c {S : Nat → Nat} {tc r : Nat} {G : Nat → (Nat → Nat) → (Nat → Nat) → Prop} (wg : WG S) (hm : fb_sm (mmS S) (S 1) = S 2) : sLr S tc (fun r w _ p => ifc (G r w p) 1 0) r = NF (fun a b => a + b) 0 (S 1) (noS S) (S 2) (fun _ => 0) (fun _ => 0) (fun w q => ifc (LN S (XR S tc r) w q ∧ G r w q) 1 0) := by
  rw [NF_eq CM_nat]
  have e1 : ∀ b, sLb S tc r (fun w _ p => ifc (G r w p) 1 0) b = NS (fun a b => a + b) 0 (S 1) (S 2) (fun _ => 0) (fun w => NS (fun a b => a + b) 0 (noS S) (S 2) (fun _ => 0) (fun q => ifc (bgn S b) (ifc (FT S w) (ifc (OKQ S (XR S tc r) w b q) (ifc (G r w q) 1 0) 0) 0) 0)) := by
    intro b
    unfold sLb
    rw [ifc_NS]
    refine NS_cong fun w _ _ => ?_
    unfold sLn
    rw [ifc_NS, ifc_NS]
    rfl
  unfold sLr
  rw [gs_cong (g := fun b => NS (fun a b => a + b) 0 (S 1) (S 2) (fun _ => 0) (fun w => NS (fun a b => a + b) 0 (noS S) (S 2) (fun _ => 0) (fun q => ifc (bgn S b) (ifc (FT S w) (ifc (OKQ S (XR S tc r) w b q) (ifc (G r w q) 1 0) 0) 0) 0))) fun b _ => e1 b]
  rw [← NS_gs CM_nat (fun w b => NS (fun a b => a + b) 0 (noS S) (S 2) (fun _ => 0) (fun q => ifc (bgn S b) (ifc (FT S w) (ifc (OKQ S (XR S tc r) w b q) (ifc (G r w q) 1 0) 0) 0) 0))]
  refine NS_cong fun w _ _ => ?_
  rw [← NS_gs CM_nat (fun q b => ifc (bgn S b) (ifc (FT S w) (ifc (OKQ S (XR S tc r) w b q) (ifc (G r w q) 1 0) 0) 0) 0)]
  exact NS_cong fun q _ _ => gs_b wg hm
theorem gs_sm {f : Nat → Nat} : ∀ {n : Nat}, gs (fun a b => a + b) 0 f n = fb_sm f n
  | 0 => rfl
  | n + 1 => by rw [gs, fb_sm_succ, gs_sm]
theorem count_A {S : Nat → Nat} (wg : WG S) (wt : WT S) (h9 : S 9 = 1) : gs (fun a b => a + b) 0 (sLr S 4 (fun r w _ p => ifc (GM S (XR S 4 r) (2 ^ S 10 - 1) w p) 1 0)) (fac (uc S)) = cAll S := by
  have hm := mm_sum wg wt h9
  rw [gs_sm]
  unfold cAll
  congr 1
  funext r
  rw [sLr_c (G := fun r w p => GM S (XR S 4 r) (2 ^ S 10 - 1) w p) wg hm]
  unfold cL
  congr 1
  funext w q
  refine ifc_c ?_
  show LN S (XR S 4 r) w q ∧ GM S (XR S 4 r) (2 ^ S 10 - 1) w q ↔ _
  unfold XR
  rw [XT_4]
  exact GM_full
theorem sm_ltx {f : Nat → Nat} {c : Nat} (h : ∀ k, f k ≤ c) : ∀ n, fb_sm f n ≤ n * c
  | 0 => by rw [Nat.zero_mul]; exact Nat.le_refl 0
  | n + 1 => by
    have := sm_ltx h n
    have := h n
    rw [fb_sm_succ, Nat.add_mul, Nat.one_mul]
    omega
theorem cAll_lt {S : Nat → Nat} (wg : WG S) (wt : WT S) (h9 : S 9 = 1) : cAll S ≤ 600000000 := by
  have hu : uc S ≤ 3 := (wt.2 h9).2.2.2.2
  have hf6 := fac_6 (uc S) (by omega)
  have h1 := sm_ltx (f := fun r => cL S (XF S r)) (c := 100000000) (fun k => Nat.le_of_lt (cL_lt wg)) (fac (uc S))
  unfold cAll
  have h2 : fac (uc S) * 100000000 ≤ 6 * 100000000 := Nat.mul_le_mul_right _ hf6
  omega
theorem IN_TA {S : Nat → Nat} {m : rn_Mem} (h : IN0 S m) : ∀ i, ¬ TA S i m := by
  have hz : ∀ (K v c : Nat) (A : Int32), K ≤ 65536 → A = 0 → v < K → A = nI v → v.testBit c = true → False := fun K v c A hK h0 hv he hb => by
    rw [h0, k0, nI_eq (by omega) (by omega)] at he
    rw [← he, Nat.zero_testBit] at hb
    exact absurd hb (by decide)
  obtain ⟨i1, i2, i3, i4, i5⟩ := h
  rintro ⟨_ | _ | _ | _ | _ | t, a, c⟩ hd
  · obtain ⟨ha, v, v1, v2, v3⟩ := hd
    exact hz _ v c _ (by decide) (i3 a ha) v1 v2 v3
  · obtain ⟨ha, v, v1, v2, v3⟩ := hd
    exact hz _ v c _ (by decide) (i4 a ha) v1 v2 v3
  · obtain ⟨ha, v, v1, v2, v3⟩ := hd
    exact hz _ v c _ (by decide) (i5 a ha).1 v1 v2 v3
  · obtain ⟨ha, v, v1, v2, v3⟩ := hd
    exact hz _ v c _ (by decide) (i5 a ha).2 v1 v2 v3
  · exact hd.1 i1
  · exact hd i1
theorem IN_JA {S : Nat → Nat} {m : rn_Mem} (h : IN0 S m) : JA S m 0 := by
  obtain ⟨i1, i2, i3, i4, i5⟩ := h
  refine ⟨i1, by unfold BBd; decide, fun x hx => ⟨0, by decide, i3 x hx⟩, fun t ht => ⟨0, by decide, i4 t ht⟩, fun k hk => ⟨⟨0, by decide, (i5 k hk).1⟩, ⟨0, by decide, (i5 k hk).2⟩⟩, fun h => absurd h (by decide)⟩
theorem find_A {S : Nat → Nat} {pc nf : Nat} {m : rn_Mem} (hnf : 404000 < nf) (wg : WG S) (wt : WT S) (wc : WC S) (h9 : S 9 = 1) (hpc : pc ≤ 4) (hz : zOT S (m.1 116)) (hR : RM S 4 (2 ^ S 10 - 1) false pc m) (h13 : m.1 115 13 = 0) : ∃ m2, mo_findPlays nf m = some m2 ∧ RL S m2 ∧ Kpl m m2 ∧ JA S m2 (cAll S) ∧ ∀ i, TA S i m2 ↔ ∃ r w q, r < fac (uc S) ∧ GL S (XF S r) w q ∧ DA S (XF S r) r w q i := by
  have hM : 2 ^ S 10 - 1 < 2 ^ 31 := by
    have h1 : 2 ^ S 10 ≤ 2 ^ 6 := Nat.pow_le_pow_right (by decide) wc.1
    omega
  have hct := count_A wg wt h9
  have hcl := cAll_lt wg wt h9
  obtain ⟨m1, m2, n2, f1, fL, f2, f3, f4, f5, f6, f7⟩ := fp_sp (m := m) (tc := 4) (M := 2 ^ S 10 - 1) (pc := pc) (cn := false) hnf wg wt wc h9 (by omega) hM hpc (HKR_A wg wt wc h9) (by rw [hct]; exact Nat.lt_of_le_of_lt hcl (by unfold BBd; decide)) hz hR (fun m1 h1 h2 => ⟨IN_JA h1, by rw [h2.2.1 13 (by omega) (by omega)]; exact h13⟩)
  rw [hct] at f7
  refine ⟨m2, f1, fL, f5, by rw [← f7]; exact f4.1, fun i => ?_⟩
  rw [f6 i, ln_ex (B := fun r w p => GM S (XR S 4 r) (2 ^ S 10 - 1) w p ∧ DA S (XR S 4 r) r w p i) wg wt h9 (fun r w u q p a1 a2 h => ⟨GM_g a1 a2 h.1, DA_g wg.2.2.1 a1 a2 i h.2⟩)]
  have e : ∀ r, XR S 4 r = XF S r := fun r => XT_4
  constructor
  · rintro (h | ⟨r, w, q, h1, h2, h3, h4⟩)
    · exact absurd h (IN_TA f2 i)
    · rw [e r] at h2 h3 h4
      exact ⟨r, w, q, h1, GM_full.mp ⟨h2, h3⟩, h4⟩
  · rintro ⟨r, w, q, h1, h2, h3⟩
    obtain ⟨a, b⟩ := GM_full.mpr h2
    exact Or.inr ⟨r, w, q, h1, by rw [e r]; exact a, by rw [e r]; exact b, by rw [e r]; exact h3⟩
theorem gs_00 {S : Nat → Nat} {tc : Nat} {n : Nat} : gs (fun a b => a + b) 0 (sLr S tc (fun _ _ _ _ => 0)) n = 0 := by
  refine gs_e CM_nat fun r _ => ?_
  unfold sLr
  refine gs_e CM_nat fun b _ => ?_
  unfold sLb
  by_cases hb : bgn S b
  · rw [ifc_p hb]
    refine NS_z fun w _ => ?_
    unfold sLn
    by_cases hw : FT S w
    · rw [ifc_p hw]
      refine NS_z fun p _ => ?_
      unfold phi
      by_cases q : OKQ S (XT S tc (XF S r)) w b p
      · rw [ifc_p q]
      · rw [ifc_n q]
    · rw [ifc_n hw]
  · rw [ifc_n hb]
theorem find_I {S : Nat → Nat} {tc M pc nf : Nat} {m : rn_Mem} (hnf : 404000 < nf) (wg : WG S) (wt : WT S) (wc : WC S) (h9 : S 9 = 1) (htc : tc ≤ 4) (hM : M < 2 ^ 31) (hpc : pc ≤ 4) (hz : zOT S (m.1 116)) (hR : RM S tc M false pc m) (h13 : ¬ m.1 115 13 = 0) : ∃ m2, mo_findPlays nf m = some m2 ∧ Kpl m m2 ∧ (0 < lg_cmp (m2.2 115 14) 0 ↔ ∃ r w q, r < fac (uc S) ∧ LN S (XR S tc r) w q ∧ GM S (XR S tc r) M w q) := by
  obtain ⟨m1, m2, n2, f1, fL, f2, f3, f4, f5, f6, f7⟩ := fp_sp (m := m) (tc := tc) (M := M) (pc := pc) (cn := false) hnf wg wt wc h9 htc hM hpc (HKR_I wg wt wc h9) (by rw [gs_00]; unfold BBd; decide) hz hR (fun m1 h1 h2 => ⟨⟨0, by omega, IN_JA h1⟩, by rw [h2.2.1 13 (by omega) (by omega)]; exact h13⟩)
  refine ⟨m2, f1, f5, ?_⟩
  obtain ⟨⟨n', g1, g2⟩, _⟩ := f4
  have h6 : m2.2 115 14 ≠ 0 ↔ _ := f6 ()
  have hb := lN_0 g2.2.1
  have e : 0 < lg_cmp (m2.2 115 14) 0 ↔ m2.2 115 14 ≠ 0 := by
    rw [g2.1, hb.2.2]
    constructor
    · exact fun h t => by have := hb.1.mp t; omega
    · intro h
      exact Classical.byContradiction fun t => h (hb.1.mpr (by omega))
  rw [e, h6, ln_ex (B := fun r w p => GM S (XR S tc r) M w p) wg wt h9 (fun r w u q p a1 a2 h => GM_g a1 a2 h)]
  exact ⟨fun h => h.elim (fun t => absurd f2.1 t) id, Or.inr⟩
theorem find_C {S : Nat → Nat} {tc M pc nf : Nat} {m : rn_Mem} (hnf : 404000 < nf) (wg : WG S) (wt : WT S) (wc : WC S) (h9 : S 9 = 1) (htc : tc ≤ 4) (hM : M < 2 ^ 31) (hpc : pc ≤ 4) (hz : zOT S (m.1 116)) (hR : RM S tc M true pc m) (h13 : ¬ m.1 115 13 = 0) : ∃ m2, mo_findPlays nf m = some m2 ∧ Kpl m m2 ∧ JC m2 ∧ ∀ y, TCy y m2 ↔ ∃ r w q, r < fac (uc S) ∧ LN S (XR S tc r) w q ∧ BC S (XR S tc r) M pc y w q := by
  obtain ⟨m1, m2, n2, f1, fL, f2, f3, f4, f5, f6, f7⟩ := fp_sp (m := m) (tc := tc) (M := M) (pc := pc) (cn := true) hnf wg wt wc h9 htc hM hpc (HKR_C wg wt wc h9) (by rw [gs_00]; unfold BBd; decide) hz hR (fun m1 h1 h2 => ⟨Or.inl ⟨h1.2.1, h1.1⟩, by rw [h2.2.1 13 (by omega) (by omega)]; exact h13⟩)
  refine ⟨m2, f1, f5, f4.1, fun y => ?_⟩
  rw [f6 y, ln_ex (B := fun r w p => BC S (XR S tc r) M pc y w p) wg wt h9 (fun r w u q p a1 a2 h => BC_g a1 a2 h)]
  refine ⟨fun h => h.elim (fun ⟨v, v1, v2, v3⟩ => ?_) id, Or.inr⟩
  rw [f2.2.1, show (-4 : Int32) = mI 4 from rfl, eq_mn (by omega) (by omega) (by omega)] at v2
  exact v2.elim
