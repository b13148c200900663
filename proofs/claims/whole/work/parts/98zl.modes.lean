/-! THE REFERENCE'S SEARCH: its three ways of being asked -/
theorem JA_fr {S : Nat → Nat} {m m2 : rn_Mem} {n : Nat} (h : Fr m m2) (hJ : JA S m n) : JA S m2 n ∧ ∀ i, TA S i m2 ↔ TA S i m := by
  have e120 := h.2.2 120 (by omega) (by omega)
  have e121 := h.2.2 121 (by omega) (by omega)
  have e122 := h.2.2 122 (by omega) (by omega)
  have e123 := h.2.2 123 (by omega) (by omega)
  have e124 := h.2.2 124 (by omega) (by omega)
  refine ⟨?_, ?_⟩
  · unfold JA rowM at hJ ⊢
    rw [e120, e121, e122, e123, e124, h.1]
    exact hJ
  · rintro ⟨_ | _ | _ | _ | _ | t, a, c⟩
    · show (a < 16 ∧ ∃ v, v < 2 ^ 4 ∧ m2.1 120 a = nI v ∧ v.testBit c = true) ↔ (a < 16 ∧ ∃ v, v < 2 ^ 4 ∧ m.1 120 a = nI v ∧ v.testBit c = true)
      rw [e120]
    · show (a < uc S ∧ ∃ v, v < 2 ^ 16 ∧ m2.1 121 a = nI v ∧ v.testBit c = true) ↔ (a < uc S ∧ ∃ v, v < 2 ^ 16 ∧ m.1 121 a = nI v ∧ v.testBit c = true)
      rw [e121]
    · show (a < 4 ∧ ∃ v, v < 2 ^ 4 ∧ m2.1 122 a = nI v ∧ v.testBit c = true) ↔ (a < 4 ∧ ∃ v, v < 2 ^ 4 ∧ m.1 122 a = nI v ∧ v.testBit c = true)
      rw [e122]
    · show (a < 4 ∧ ∃ v, v < 2 ^ 4 ∧ m2.1 123 a = nI v ∧ v.testBit c = true) ↔ (a < 4 ∧ ∃ v, v < 2 ^ 4 ∧ m.1 123 a = nI v ∧ v.testBit c = true)
      rw [e123]
    · show (m2.2 115 14 ≠ 0 ∧ ∃ f, rowM S f m2 ∧ pk16 f (1 + S 1 * S 2) ≤ c) ↔ (m.2 115 14 ≠ 0 ∧ ∃ f, rowM S f m ∧ pk16 f (1 + S 1 * S 2) ≤ c)
      unfold rowM
      rw [e124, h.1]
    · show m2.2 115 14 ≠ 0 ↔ m.2 115 14 ≠ 0
      rw [h.1]
def XR (S : Nat → Nat) (tc r : Nat) : Nat → Nat → Nat → Nat := XT S tc (XF S r)
theorem HKR_A {S : Nat → Nat} {tc M pc : Nat} (wg : WG S) (wt : WT S) (wc : WC S) (h9 : S 9 = 1) : HKR S tc M false pc (fun m n => JA S m n ∧ m.1 115 13 = 0) (TA S) (fun r i w _ p => GM S (XR S tc r) M w p ∧ DA S (XR S tc r) r w p i) (fun r w _ p => ifc (GM S (XR S tc r) M w p) 1 0) := by
  have fr : ∀ (m m2 : rn_Mem) (n : Nat), Fr m m2 → (JA S m n ∧ m.1 115 13 = 0) → (JA S m2 n ∧ m2.1 115 13 = 0) ∧ ∀ i, TA S i m2 ↔ TA S i m := fun m m2 n h hJ => ⟨⟨(JA_fr h hJ.1).1, by rw [h.2.1]; exact hJ.2⟩, (JA_fr h hJ.1).2⟩
  refine ⟨fr, fun r w b hr hF hb => ?_⟩
  have hH : HZ S (XR S tc r) := XT_HZ (XF_HZ wg wt h9 hr)
  have hD : DX S (XR S tc r) := XT_DX (XF_DX wg wt h9 hr)
  have hX : SX S (XR S tc r) := XT_SX (XF_SX wg wt h9 hr)
  have hP : PX S (XR S tc r) := XT_PX (XF_PX wg wt h9 hr)
  refine ⟨⟨fun m m2 hk hE => ⟨EW_k hE.1 hk.h, hE.2⟩, fr, fun m n k q hJ hk hq hn p hp he => ?_, fun m n hJ hd => absurd hJ.2 hd.1, fun m n q nf hnf hE hJ hG hT hL hL0 hd hB => ?_⟩, fun hc p hp => ?_⟩
  · have hng : ¬ GM S (XR S tc r) M w p := fun hg => hn (LTp_a hk (fun j hj => he j hj) (((GM_iff (pc := pc) (few := m.1 115 15) wg wc hD hX hF hb hp).mp hg).2 k hk))
    exact ⟨fun i hi => absurd hi.1 hng, ifc_n hng⟩
  · have hokq : OKQ S (XR S tc r) w b q := fun j hj => ⟨(hT.1 j (Nat.zero_le j) hj).1.1, (hT.1 j (Nat.zero_le j) hj).1.2.1⟩
    have hg : GM S (XR S tc r) M w q := (GM_iff (pc := pc) (few := -1) wg wc hD hX hF hb hokq).mpr ⟨hE.2, hL⟩
    have hB2 : n + 1 < BBd := by
      have h : n + ifc (GM S (XR S tc r) M w q) 1 0 < BBd := hB
      rw [ifc_p hg] at h
      exact h
    obtain ⟨m2, k1, k2, k3, k4, k5⟩ := keep_sp (nf := nf) hnf wg wt h9 hr hH hD hX hP hF hb hE.1 hJ.1 hG hT hB2
    refine ⟨m2, k1, k2, k3, ⟨?_, by rw [k2.2.1 13 (by omega)]; exact hJ.2⟩, fun i => ?_⟩
    · show JA S m2 (n + ifc (GM S (XR S tc r) M w q) 1 0)
      rw [ifc_p hg]
      exact k4
    · rw [k5 i]
      exact ⟨fun h => h.elim Or.inl fun h => Or.inr ⟨hg, h⟩, fun h => h.elim Or.inl fun h => Or.inr h.2⟩
  · have hng : ¬ GM S (XR S tc r) M w p := fun hg => hc ((GM_iff (pc := pc) (few := -1) wg wc hD hX hF hb hp).mp hg).1
    exact ⟨fun i hi => hng hi.1, ifc_n hng⟩
/-- is there a play -/
theorem HKR_I {S : Nat → Nat} {tc M pc : Nat} (wg : WG S) (wt : WT S) (wc : WC S) (h9 : S 9 = 1) : HKR S tc M false pc (fun m _ => (∃ n', n' ≤ 1 ∧ JA S m n') ∧ ¬ m.1 115 13 = 0) (fun (_ : Unit) m => m.2 115 14 ≠ 0) (fun r _ w _ p => GM S (XR S tc r) M w p) (fun _ _ _ _ => 0) := by
  have fr : ∀ (m m2 : rn_Mem) (n : Nat), Fr m m2 → ((∃ n', n' ≤ 1 ∧ JA S m n') ∧ ¬ m.1 115 13 = 0) → ((∃ n', n' ≤ 1 ∧ JA S m2 n') ∧ ¬ m2.1 115 13 = 0) ∧ ∀ i : Unit, (fun (_ : Unit) (m : rn_Mem) => m.2 115 14 ≠ 0) i m2 ↔ (fun (_ : Unit) (m : rn_Mem) => m.2 115 14 ≠ 0) i m := fun m m2 n h hJ => by
    obtain ⟨⟨n', h1, h2⟩, h3⟩ := hJ
    refine ⟨⟨⟨n', h1, (JA_fr h h2).1⟩, by rw [h.2.1]; exact h3⟩, fun _ => ?_⟩
    show m2.2 115 14 ≠ 0 ↔ m.2 115 14 ≠ 0
    rw [h.1]
  refine ⟨fr, fun r w b hr hF hb => ?_⟩
  have hH : HZ S (XR S tc r) := XT_HZ (XF_HZ wg wt h9 hr)
  have hD : DX S (XR S tc r) := XT_DX (XF_DX wg wt h9 hr)
  have hX : SX S (XR S tc r) := XT_SX (XF_SX wg wt h9 hr)
  have hP : PX S (XR S tc r) := XT_PX (XF_PX wg wt h9 hr)
  refine ⟨⟨fun m m2 hk hE => ⟨EW_k hE.1 hk.h, hE.2⟩, fr, fun m n k q hJ hk hq hn p hp he => ?_, fun m n hJ hd p hp => ⟨fun _ _ => ?_, rfl⟩, fun m n q nf hnf hE hJ hG hT hL hL0 hd hB => ?_⟩, fun hc p hp => ?_⟩
  · have hng : ¬ GM S (XR S tc r) M w p := fun hg => hn (LTp_a hk (fun j hj => he j hj) (((GM_iff (pc := pc) (few := m.1 115 15) wg wc hD hX hF hb hp).mp hg).2 k hk))
    exact ⟨fun i hi => absurd hi hng, rfl⟩
  · obtain ⟨⟨n', h1, h2⟩, h3⟩ := hJ
    show m.2 115 14 ≠ 0
    intro t
    have := hd.2
    rw [t] at this
    exact absurd this (by decide)
  · obtain ⟨⟨n', h1, h2⟩, h3⟩ := hJ
    have hokq : OKQ S (XR S tc r) w b q := fun j hj => ⟨(hT.1 j (Nat.zero_le j) hj).1.1, (hT.1 j (Nat.zero_le j) hj).1.2.1⟩
    have hg : GM S (XR S tc r) M w q := (GM_iff (pc := pc) (few := -1) wg wc hD hX hF hb hokq).mpr ⟨hE.2, hL⟩
    have hn0 : n' = 0 := by
      refine Classical.byContradiction fun y => hd ⟨h3, ?_⟩
      rw [h2.1]
      exact (lN_0 h2.2.1).2.2.mpr (by omega)
    subst hn0
    obtain ⟨m2, k1, k2, k3, k4, k5⟩ := keep_sp (nf := nf) (n := 0) hnf wg wt h9 hr hH hD hX hP hF hb hE.1 h2 hG hT (by unfold BBd; decide)
    refine ⟨m2, k1, k2, k3, ⟨⟨1, by omega, k4⟩, by rw [k2.2.1 13 (by omega)]; exact h3⟩, fun i => ?_⟩
    have := k5 (5, 0, 0)
    show m2.2 115 14 ≠ 0 ↔ m.2 115 14 ≠ 0 ∨ GM S (XR S tc r) M w q
    exact ⟨fun _ => Or.inr hg, fun _ => this.mpr (Or.inr trivial)⟩
  · have hng : ¬ GM S (XR S tc r) M w p := fun hg => hc ((GM_iff (pc := pc) (few := -1) wg wc hD hX hF hb hp).mp hg).1
    exact ⟨fun i hi => hng hi, rfl⟩
theorem byQ_bit {S : Nat → Nat} {X : Nat → Nat → Nat → Nat} {w p : Nat → Nat} {x : Nat} : ∀ {r : Nat}, (byQ S X w p r).testBit x = false ↔ ∀ j, j < r → (wrQ S X w p j).testBit x = false
  | 0 => ⟨fun _ j h => absurd h (Nat.not_lt_zero j), fun _ => by rw [byQ]; exact Nat.zero_testBit x⟩
  | r + 1 => by
    rw [byQ, Nat.testBit_or, Bool.or_eq_false_iff, byQ_bit]
    constructor
    · rintro ⟨h1, h2⟩ j hj
      by_cases e : j = r
      · rw [e]; exact h2
      · exact h1 j (by omega)
    · intro h
      exact ⟨fun j hj => h j (by omega), h r (by omega)⟩
theorem nbQ_mo {S : Nat → Nat} {X : Nat → Nat → Nat → Nat} {w p : Nat → Nat} {r : Nat} : ∀ {d : Nat}, nbQ S X w p r ≤ nbQ S X w p (r + d)
  | 0 => Nat.le_refl _
  | d + 1 => by
    have := nbQ_mo (S := S) (X := X) (w := w) (p := p) (r := r) (d := d)
    rw [← Nat.add_assoc, nbQ]
    omega
theorem nbQ_64 {S : Nat → Nat} {X : Nat → Nat → Nat → Nat} {w p : Nat → Nat} : ∀ {r : Nat}, nbQ S X w p r ≤ 16 * r
  | 0 => Nat.le_refl 0
  | r + 1 => by
    have h1 := nbQ_64 (S := S) (X := X) (w := w) (p := p) (r := r)
    have h2 : cnt (wrQ S X w p r) ≤ 16 := fb_ct_le _ _
    rw [nbQ]
    omega
/-- the fewest breaches -/
def JC (m : rn_Mem) : Prop := (m.1 115 15 = -4 ∧ m.2 115 14 = 0) ∨ ∃ v, v < 1000 ∧ m.1 115 15 = nI v ∧ m.2 115 14 = if v = 0 then 1 else 0
def TCy (y : Nat) (m : rn_Mem) : Prop := ∃ v, v < 1000 ∧ m.1 115 15 = nI v ∧ v ≤ y
def BC (S : Nat → Nat) (X : Nat → Nat → Nat → Nat) (M pc y : Nat) (w p : Nat → Nat) : Prop := bkQ S X w p (S 2) &&& M = 0 ∧ (byQ S X w p (S 2)).testBit (4 * pc) = false ∧ nbQ S X w p (S 2) ≤ y
theorem BC_iff {S : Nat → Nat} {X : Nat → Nat → Nat → Nat} {w p : Nat → Nat} {b M pc y : Nat} (wg : WG S) (wc : WC S) (hD : DX S X) (hX : SX S X) (hF : FT S w) (hb : b < S 1) (hq : OKQ S X w b p) : BC S X M pc y w p ↔ COQ S X w b M ∧ (∀ k, k < S 2 → LTp S X w b M true pc k p (-1)) ∧ nbQ S X w p (S 2) ≤ y := by
  unfold BC LTp
  rw [bk_M wg wc hD hX hF hb hq, byQ_bit]
  simp only [if_pos (show true = true from rfl)]
  constructor
  · rintro ⟨⟨h1, h2⟩, h3, h4⟩
    exact ⟨h1, fun k hk => ⟨⟨h3 _ (by omega), Or.inl (by decide)⟩, h2 k hk⟩, h4⟩
  · rintro ⟨h1, h2, h3⟩
    refine ⟨⟨h1, fun k hk => (h2 k hk).2⟩, fun j hj => ?_, h3⟩
    have := (h2 (S 2 - (j + 1)) (by omega)).1.1
    rw [show S 2 - (S 2 - (j + 1) + 1) = j by omega] at this
    exact this
theorem HKR_C {S : Nat → Nat} {tc M pc : Nat} (wg : WG S) (wt : WT S) (wc : WC S) (h9 : S 9 = 1) : HKR S tc M true pc (fun m _ => JC m ∧ ¬ m.1 115 13 = 0) TCy (fun r y w _ p => BC S (XR S tc r) M pc y w p) (fun _ _ _ _ => 0) := by
  have w4 : S 2 ≤ 4 := wg.2.2.2.1
  have w3 : 1 ≤ S 2 := wg.2.2.1
  have fr : ∀ (m m2 : rn_Mem) (n : Nat), Fr m m2 → (JC m ∧ ¬ m.1 115 13 = 0) → (JC m2 ∧ ¬ m2.1 115 13 = 0) ∧ ∀ i, TCy i m2 ↔ TCy i m := fun m m2 n h hJ => by
    unfold JC TCy at *
    rw [h.1, h.2.1]
    exact ⟨hJ, fun _ => Iff.rfl⟩
  refine ⟨fr, fun r w b hr hF hb => ?_⟩
  have hH : HZ S (XR S tc r) := XT_HZ (XF_HZ wg wt h9 hr)
  have hD : DX S (XR S tc r) := XT_DX (XF_DX wg wt h9 hr)
  have hX : SX S (XR S tc r) := XT_SX (XF_SX wg wt h9 hr)
  refine ⟨⟨fun m m2 hk hE => ⟨EW_k hE.1 hk.h, hE.2⟩, fr, fun m n k q hJ hk hq hn p hp he => ⟨fun y hy => ?_, rfl⟩, fun m n hJ hd p hp => ⟨fun y _ => ?_, rfl⟩, fun m n q nf hnf hE hJ hG hT hL hL0 hd hB => ?_⟩, fun hc p hp => ⟨fun y hy => hc ((BC_iff wg wc hD hX hF hb hp).mp hy).1, rfl⟩⟩
  · obtain ⟨_, b2, b3⟩ := (BC_iff wg wc hD hX hF hb hp).mp hy
    have hl := LTp_a hk (fun j hj => he j hj) (b2 k hk)
    have hnb : nbQ S (XR S tc r) w q (S 2 - k) ≤ y := by
      rw [← nbQ_a (q := p) (p := q) fun j hj => he j (by omega)]
      have := nbQ_mo (S := S) (X := XR S tc r) (w := w) (p := p) (r := S 2 - k) (d := k)
      rw [show S 2 - k + k = S 2 by omega] at this
      omega
    have h64 := nbQ_64 (S := S) (X := XR S tc r) (w := w) (p := q) (r := S 2 - k)
    rcases hJ.1 with ⟨f1, _⟩ | ⟨v, v1, v2, v3⟩
    · refine absurd ?_ hn
      unfold LTp at hl ⊢
      rw [if_pos rfl] at hl ⊢
      exact ⟨⟨hl.1.1, Or.inl (by rw [f1]; decide)⟩, hl.2⟩
    · refine ⟨v, v1, v2, Classical.byContradiction fun hv => hn ?_⟩
      unfold LTp at hl ⊢
      rw [if_pos rfl] at hl ⊢
      have v2' : m.1 115 15 = nI v := v2
      exact ⟨⟨hl.1.1, Or.inr (show nI (nbQ S (XR S tc r) w q (S 2 - k)) < m.1 115 15 by rw [v2', nI_ltI (by omega) (by omega)]; omega)⟩, hl.2⟩
  · rcases hJ.1 with ⟨_, f2⟩ | ⟨v, v1, v2, v3⟩
    · have := hd.2
      rw [f2] at this
      exact absurd this (by decide)
    · by_cases e : v = 0
      · exact ⟨v, v1, v2, by omega⟩
      · have := hd.2
        rw [v3, if_neg e] at this
        exact absurd this (by decide)
  · have hokq : OKQ S (XR S tc r) w b q := fun j hj => ⟨(hT.1 j (Nat.zero_le j) hj).1.1, (hT.1 j (Nat.zero_le j) hj).1.2.1⟩
    have h135 : m.1 135 0 = nI (nbQ S (XR S tc r) w q (S 2)) := (hT.2 0 (Nat.le_refl 0) (by omega)).2
    have h64 := nbQ_64 (S := S) (X := XR S tc r) (w := w) (p := q) (r := S 2)
    have hf0 : m.2 115 14 = 0 := by
      rcases hJ.1 with ⟨_, f2⟩ | ⟨v, v1, v2, v3⟩
      · exact f2
      · by_cases e : v = 0
        · rw [if_pos e] at v3
          exact absurd ⟨hJ.2, by rw [v3]; decide⟩ hd
        · rw [v3, if_neg e]
    generalize eV : nbQ S (XR S tc r) w q (S 2) = V at *
    refine ⟨rm_j (rm_i m 115 15 (nI V)) 115 14 (if V = 0 then 1 else 0), ?_, ⟨fun p h1 _ _ => ?_, fun i hi => ?_, fun p i hi => ?_⟩, fun p h1 h2 => ?_, ⟨Or.inr ⟨V, by omega, ?_, ?_⟩, ?_⟩, fun y => ?_⟩
    · rw [mo_keepPlay, if_neg (show ¬ m.1 115 11 = 0 by rw [hG.2.2.2.2.1]; decide), h135, Option.bind_some]
      try simp only []
      rw [show (rm_i m 115 15 (nI V)).1 115 15 = nI V by rw [mi_get, if_pos ⟨rfl, rfl⟩], show (if nI V = 0 then some (1 : Int64) else some ((rm_i m 115 15 (nI V)).2 115 14)) = some (if V = 0 then 1 else 0) by
        by_cases e : V = 0
        · rw [if_pos (by rw [e]; rfl), if_pos e]
        · rw [if_neg (nI_ne0 (by omega) (by omega)), if_neg e, mi_2, hf0], Option.bind_some, Option.bind_some]
    · rw [mj_1]; funext i; rw [mi_get, if_neg (fun t => h1 t.1)]
    · rw [mj_1, mi_get, if_neg (fun t => hi t.2)]
    · rw [mj_get, if_neg hi, mi_2]
    · rw [mj_1]; funext i; rw [mi_get, if_neg (by omega)]
    · rw [mj_1, mi_get, if_pos ⟨rfl, rfl⟩]
    · rw [mj_get, if_pos ⟨rfl, rfl⟩]
    · rw [mj_1, mi_get, if_neg (by omega)]; exact hJ.2
    · have hB2 : ∀ y, BC S (XR S tc r) M pc y w q ↔ V ≤ y := fun y => by
        rw [BC_iff wg wc hD hX hF hb hokq, eV]
        exact ⟨fun h => h.2.2, fun h => ⟨hE.2, hL, h⟩⟩
      show TCy y _ ↔ TCy y m ∨ BC S (XR S tc r) M pc y w q
      rw [hB2 y]
      unfold TCy
      rw [mj_1, mi_get, if_pos ⟨rfl, rfl⟩]
      constructor
      · rintro ⟨v, v1, v2, v3⟩
        rw [nI_eq (by omega) (by omega)] at v2
        exact Or.inr (by omega)
      · rintro (⟨v, v1, v2, v3⟩ | h)
        · have hl : (wrQ S (XR S tc r) w q (S 2 - (0 + 1))).testBit (4 * pc) = false ∧ (m.1 115 15 < 0 ∨ nI (nbQ S (XR S tc r) w q (S 2 - 0)) < m.1 115 15) := hL0.1
          rw [v2, Nat.sub_zero, eV] at hl
          rcases hl.2 with h | h
          · rw [show nI v < 0 ↔ False from ⟨fun t => by rw [k0, nI_ltI (by omega) (by omega)] at t; omega, fun t => t.elim⟩] at h
            exact h.elim
          · rw [nI_ltI (by omega) (by omega)] at h
            exact ⟨V, by omega, rfl, by omega⟩
        · exact ⟨V, by omega, rfl, h⟩
