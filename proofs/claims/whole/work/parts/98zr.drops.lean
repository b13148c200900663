/-! THE CALLS OF THE SEARCH: drops -/
theorem isPlay_sp {S : Nat → Nat} {tc M nf : Nat} {m : rn_Mem} (hnf : 404000 < nf) (wg : WG S) (wt : WT S) (wc : WC S) (h9 : S 9 = 1) (htc : tc ≤ 4) (hM : M < 2 ^ 31) (hz : zOT S (m.1 116)) (hR : RM S tc M false 4 m) : ∃ (m2 : rn_Mem) (b : Bool), mo_isPlay nf m = some (if b = true then 1 else 0, m2) ∧ Kpm m m2 ∧ (∀ i, i < 13 → m2.1 115 i = m.1 115 i) ∧ (b = true ↔ ∃ r w q, r < fac (uc S) ∧ LN S (XR S tc r) w q ∧ GM S (XR S tc r) M w q) := by
  generalize hm1 : rm_i m 115 13 1 = m1
  have k1 : Kpm m m1 := by rw [← hm1]; exact Kpm_i (by omega)
  have k2 : ∀ i, i < 13 → m1.1 115 i = m.1 115 i := fun i hi => by rw [← hm1, mi_get, if_neg (by omega)]
  have hR1 : RM S tc M false 4 m1 := by
    unfold RM RXm at hR ⊢
    rw [k2 6 (by omega), k2 7 (by omega), k2 8 (by omega), k2 9 (by omega), k2 10 (by omega), k2 11 (by omega), k2 12 (by omega)]
    exact hR
  obtain ⟨m2, a1, a2, a3⟩ := find_I (nf := nf) (m := m1) hnf wg wt wc h9 htc hM (by omega) (by rw [show m1.1 116 = m.1 116 from funext fun i => k1.1 116 i (by omega)]; exact hz) hR1 (by rw [← hm1, mi_get, if_pos ⟨rfl, rfl⟩]; decide)
  have k3 : ∀ i, i < 13 → m2.1 115 i = m.1 115 i := fun i hi => by rw [a2.2.1 i (by omega) (by omega), k2 i hi]
  by_cases y : 0 < lg_cmp (m2.2 115 14) 0
  · refine ⟨m2, true, ?_, k1.tr a2.m, k3, ⟨fun _ => a3.mp y, fun _ => rfl⟩⟩
    rw [mo_isPlay, hm1, Option.bind_some, a1, Option.bind_some, if_pos y]
    rfl
  · refine ⟨m2, false, ?_, k1.tr a2.m, k3, ⟨fun t => absurd t (by decide), fun t => absurd (a3.mpr t) y⟩⟩
    rw [mo_isPlay, hm1, Option.bind_some, a1, Option.bind_some, if_neg y]
    rfl
def on4 : Nat → Int32 → Int32 → Option Int32
  | 0, _, _ => none
  | n + 1, a1, a2 => if a2 = 0 then some a1 else on4 n (a1 + 1) (a2 &&& (a2 - 1))
theorem on4_ok : ∀ {n : Nat} {a1 a2 x : Int32} {m : rn_Mem}, on4 n a1 a2 = some x → ∀ d, mo_ones_l4 (n + d) a1 a2 m = some (x, m)
  | 0, a1, a2, x, m, h, d => by rw [on4] at h; cases h
  | n + 1, a1, a2, x, m, h, d => by
    rw [on4] at h
    rw [show n + 1 + d = (n + d) + 1 by omega, mo_ones_l4]
    by_cases y : a2 = 0
    · rw [if_pos y] at h ⊢
      injection h with h
      rw [h]
    · rw [if_neg y] at h ⊢
      rw [Option.bind_some, Option.bind_some]
      exact on4_ok h d
theorem on4_e : ∀ x, x < 64 → on4 10 0 (nI x) = some (nI (cnt x)) := by decide +kernel
theorem ones_sp {x nf : Nat} {m : rn_Mem} (hx : x < 64) (hnf : 10 ≤ nf) : mo_ones nf (nI x) m = some (nI (cnt x), m) := by
  have h := on4_ok (m := m) (on4_e x hx) (nf - 10)
  rw [show 10 + (nf - 10) = nf by omega] at h
  rw [mo_ones, h, Option.bind_some]
/-- a set of clues without which there is a play -/
def fea (S : Nat → Nat) (t : Nat) : Prop := ∃ r w q, r < fac (uc S) ∧ LN S (XF S r) w q ∧ nbQ S (XF S r) w q (S 2) = 0 ∧ ∀ x, (bkQ S (XF S r) w q (S 2)).testBit x = true → t.testBit x = true
theorem bk_lt {S : Nat → Nat} {X : Nat → Nat → Nat → Nat} {w q : Nat → Nat} (wc : WC S) : bkQ S X w q (S 2) < 2 ^ S 10 := by
  apply Nat.lt_pow_two_of_testBit
  intro i hi
  cases e : (bkQ S X w q (S 2)).testBit i with
  | false => rfl
  | true =>
    obtain ⟨j, _, _, j3⟩ := (bkQ_bit (Nat.le_refl _)).mp e
    rcases j3 with j3 | j3
    · obtain ⟨_, _, h, _⟩ := kBr_bit.mp j3; omega
    · omega
/-- the best so far -/
def bst (S : Nat → Nat) (s : Nat) (x : Int32) : Prop := (x = -4 ∧ ∀ t, t < s → ¬ fea S t) ∨ ∃ b, x = nI b ∧ b < s ∧ fea S b ∧ ∀ t, t < s → fea S t → rk b ≤ rk t
theorem drops_l {S : Nat → Nat} (wg : WG S) (wt : WT S) (wc : WC S) (h9 : S 9 = 1) : ∀ (d s nf : Nat) (x : Int32) (m : rn_Mem), s + d = 2 ^ S 10 → d + 405000 < nf → zO3 S (m.1 116) → (∃ M, RM S 4 M false 4 m) → bst S s x → ∃ (x2 : Int32) (m2 : rn_Mem), mo_drops_l27 (nI (2 ^ S 10 - 1)) nf x (nI s) m = some (x2, m2) ∧ Kpm m m2 ∧ bst S (2 ^ S 10) x2 := by
  have hp : 2 ^ S 10 ≤ 2 ^ 6 := Nat.pow_le_pow_right (by decide) wc.1
  have hp1 : 1 ≤ 2 ^ S 10 := Nat.two_pow_pos _
  intro d
  induction d with
  | zero =>
    intro s nf x m e hnf hz hR hb
    obtain ⟨nf, rfl⟩ : ∃ k, nf = k + 1 := ⟨nf - 1, by omega⟩
    obtain rfl : s = 2 ^ S 10 := by omega
    refine ⟨x, m, ?_, Kpm.rf, hb⟩
    rw [mo_drops_l27, if_pos (by rw [nI_ltI (by omega) (by omega)]; omega)]
  | succ d ih =>
    intro s nf x m e hnf hz hR hb
    obtain ⟨nf, rfl⟩ : ∃ k, nf = k + 1 := ⟨nf - 1, by omega⟩
    obtain ⟨M0, hR⟩ := hR
    generalize hm6 : rm_i m 115 6 (nI (bd (2 ^ S 10 - 1) s)) = m6
    have k6 : Kpm m m6 := by rw [← hm6]; exact Kpm_i (by omega)
    have hz6 := Kpm_z k6 hz
    have hR6 : RM S 4 (bd (2 ^ S 10 - 1) s) false 4 m6 := by
      obtain ⟨r1, r2, r3, r4, r5, r6, r7⟩ := hR
      rw [← hm6]
      unfold RM RXm
      simp (disch := omega) only [mi_get, mc_get, mi_2, mc_2, mj_1, mj_get, if_pos, if_neg, true_and, and_true, if_true, and_self]
      exact ⟨r1, r2, r3, r5, r6, r7⟩
    have hMl : bd (2 ^ S 10 - 1) s < 2 ^ 31 := Nat.lt_of_lt_of_le (bd_lt (k := 6) (by omega)) (by decide)
    obtain ⟨m8, b, q1, q2, q3, q4⟩ := isPlay_sp (nf := nf) (m := m6) (by omega) wg wt wc h9 (by omega) hMl hz6.t hR6
    have q4' : b = true ↔ fea S s := by
      rw [q4]
      have e : ∀ r, XR S 4 r = XF S r := fun r => XT_4
      unfold fea GM
      constructor
      · rintro ⟨r, w, q, h1, h2, h3, h4⟩
        rw [e r] at h2 h3 h4
        refine ⟨r, w, q, h1, h2, h3, fun z hz => ?_⟩
        rw [and_0] at h4
        have := h4 z
        rw [bd_bit, Nat.testBit_two_pow_sub_one, decide_eq_true (show z < S 10 by
          refine Classical.byContradiction fun t => ?_
          rw [bit_high (bk_lt wc) (by omega)] at hz
          exact absurd hz (by decide)), Bool.true_and, Bool.not_eq_true'] at this
        cases ee : s.testBit z with
        | true => rfl
        | false => exact absurd ⟨hz, ee⟩ this
      · rintro ⟨r, w, q, h1, h2, h3, h4⟩
        refine ⟨r, w, q, h1, by rw [e r]; exact h2, by rw [e r]; exact h3, ?_⟩
        rw [e r, and_0]
        rintro z ⟨z1, z2⟩
        rw [bd_bit, h4 z z1] at z2
        simp at z2
    have hm68 : (∀ i, i < 13 → m8.1 115 i = m6.1 115 i) := q3
    have hR8 : RM S 4 (bd (2 ^ S 10 - 1) s) false 4 m8 := by
      unfold RM RXm at hR6 ⊢
      rw [q3 6 (by omega), q3 7 (by omega), q3 8 (by omega), q3 9 (by omega), q3 10 (by omega), q3 11 (by omega), q3 12 (by omega)]
      exact hR6
    have hrk : ∀ z, rk z = 64 * cnt z + z := fun z => rfl
    have hcn : ∀ z, cnt z ≤ 16 := fun z => fb_ct_le _ _
    have fin : ∀ (x24 : Int32) (m25 : rn_Mem), bst S (s + 1) x24 → Kpm m m25 → (∃ M, RM S 4 M false 4 m25) → ∃ (x2 : Int32) (m2 : rn_Mem), mo_drops_l27 (nI (2 ^ S 10 - 1)) nf x24 (nI (s + 1)) m25 = some (x2, m2) ∧ Kpm m m2 ∧ bst S (2 ^ S 10) x2 := fun x24 m25 h1 h2 h3 => by
      obtain ⟨x2, m2, g1, g2, g3⟩ := ih (s + 1) nf x24 m25 (by omega) (by omega) (Kpm_z h2 hz) h3 h1
      exact ⟨x2, m2, g1, h2.tr g2, g3⟩
    have hhead : mo_drops_l27 (nI (2 ^ S 10 - 1)) (nf + 1) x (nI s) m = ((if x < 0 then (mo_isPlay nf m6).bind fun (r9, m8) => if r9 = 0 then some (x, m8) else some (nI s, m8) else (mo_ones nf (nI s) m6).bind fun (r13, m12) => (mo_ones nf x m12).bind fun (r16, m15) => if r13 < r16 then (mo_isPlay nf m15).bind fun (r20, m19) => if r20 = 0 then some (x, m19) else some (nI s, m19) else some (x, m15)) : Option (Int32 × rn_Mem)).bind fun (x24, m25) => mo_drops_l27 (nI (2 ^ S 10 - 1)) nf x24 (nI (s + 1)) m25 := by
      rw [mo_drops_l27, if_neg (by rw [nI_ltI (by omega) (by omega)]; omega), bd_n, hm6, Option.bind_some]
      simp only [nI_1, Option.bind_some]
    rw [hhead]
    rcases hb with ⟨b1, b2⟩ | ⟨bb, b1, b2, b3, b4⟩
    · rw [if_pos (by rw [b1]; decide), q1, Option.bind_some]
      cases b with
      | false =>
        have hnf' : ¬ fea S s := fun t => absurd (q4'.mpr t) (by decide)
        exact fin x m8 (Or.inl ⟨b1, fun t ht => by
          by_cases y : t = s
          · rw [y]; exact hnf'
          · exact b2 t (by omega)⟩) (k6.tr q2) ⟨_, hR8⟩
      | true =>
        have hf := q4'.mp rfl
        exact fin (nI s) m8 (Or.inr ⟨s, rfl, by omega, hf, fun t ht hft => by
          by_cases y : t = s
          · rw [y]; exact Nat.le_refl _
          · exact absurd hft (b2 t (by omega))⟩) (k6.tr q2) ⟨_, hR8⟩
    · rw [if_neg (by rw [b1, k0, nI_ltI (by omega) (by omega)]; omega), ones_sp (by omega) (by omega), Option.bind_some]
      try simp only []
      rw [b1, ones_sp (by omega) (by omega), Option.bind_some]
      try simp only []
      have c1 := hcn s
      have c2 := hcn bb
      by_cases y : cnt s < cnt bb
      · rw [if_pos (by rw [nI_ltI (by omega) (by omega)]; exact y), q1, Option.bind_some]
        cases b with
        | false =>
          have hnf' : ¬ fea S s := fun t => absurd (q4'.mpr t) (by decide)
          exact fin (nI bb) m8 (Or.inr ⟨bb, rfl, by omega, b3, fun t ht hft => by
            by_cases z : t = s
            · rw [z] at hft; exact absurd hft hnf'
            · exact b4 t (by omega) hft⟩) (k6.tr q2) ⟨_, hR8⟩
        | true =>
          have hf := q4'.mp rfl
          exact fin (nI s) m8 (Or.inr ⟨s, rfl, by omega, hf, fun t ht hft => by
            by_cases z : t = s
            · rw [z]; exact Nat.le_refl _
            · have h1 := b4 t (by omega) hft
              have h2 := hrk s
              have h3 := hrk bb
              omega⟩) (k6.tr q2) ⟨_, hR8⟩
      · rw [if_neg (by rw [nI_ltI (by omega) (by omega)]; exact y), Option.bind_some]
        exact fin (nI bb) m6 (Or.inr ⟨bb, rfl, by omega, b3, fun t ht hft => by
          by_cases z : t = s
          · have h2 := hrk t
            have h3 := hrk bb
            rw [z] at h2 ⊢
            omega
          · exact b4 t (by omega) hft⟩) k6 ⟨_, hR6⟩
theorem cnt_ss {a b : Nat} (ha : a < 64) (hb : b < 64) (h : ∀ x, a.testBit x = true → b.testBit x = true) : rk a ≤ rk b ∧ (cnt a = cnt b → a = b) := by
  have h1 : cnt a ≤ cnt b := cnt_le fun x _ => h x
  have h2 : cnt a = cnt b → a = b := by
    intro e
    have key : fb_ct (fun x => b.testBit x && !a.testBit x) 16 = 0 := by
      have s1 : fb_ct (fun x => a.testBit x || (b.testBit x && !a.testBit x)) 16 = fb_ct (fun x => a.testBit x) 16 + fb_ct (fun x => b.testBit x && !a.testBit x) 16 := fb_ct_or fun k _ => by cases a.testBit k <;> simp
      have s2 : fb_ct (fun x => a.testBit x || (b.testBit x && !a.testBit x)) 16 = fb_ct (fun x => b.testBit x) 16 := fb_ct_cong fun k _ => by
        cases e1 : a.testBit k with
        | true => rw [h k e1]; rfl
        | false => simp
      have s3 : fb_ct (fun x => a.testBit x) 16 = fb_ct (fun x => b.testBit x) 16 := e
      omega
    apply Nat.eq_of_testBit_eq
    intro i
    by_cases y : i < 16
    · have := fb_ct_zero.mp key i y
      cases e1 : a.testBit i with
      | true => rw [h i e1]
      | false =>
        rw [e1] at this
        simp at this
        rw [this]
    · rw [bit_high (k := 6) ha (by omega), bit_high (k := 6) hb (by omega)]
  refine ⟨?_, h2⟩
  show 64 * cnt a + a ≤ 64 * cnt b + b
  by_cases e : cnt a = cnt b
  · rw [h2 e]; exact Nat.le_refl _
  · omega
theorem cnt_6 : ∀ b, b < 64 → cnt b ≤ 6 := by decide +kernel
theorem S_drops {S V : Nat → Nat} {n : Nat} {m : rn_Mem} (hn : 1000000 ≤ n) (hw : WF S) (hc : cS3 S V 3 m) (hC : CH S m) : SC S (lt_drops n) (mo_drops n) m := by
  have c5 : m.1 5 0 = nI (S 9) := hc.2.1.1
  rcases S9_01 hw with h9 | h9
  · refine SC_r (-2) hC ?_ fun m' hz => ?_
    · rw [lt_drops, if_pos (by rw [c5, h9]; rfl)]
    · rw [mo_drops, if_pos (by rw [zO3_at hz (by omega) (by omega) (by omega) (by omega), h9]; rfl)]
  obtain ⟨h0, wg, wt, wc⟩ := WF_9 hw h9
  have hp : 2 ^ S 10 ≤ 2 ^ 6 := Nat.pow_le_pow_right (by decide) wc.1
  have hp1 : 1 ≤ 2 ^ S 10 := Nat.two_pow_pos _
  have hu : uc S < 4 := by have := (wt.2 h9).2.2.2.2; omega
  obtain ⟨m1, v, p1, p2, p3, p4, p5⟩ := drops_sp (nf := n) wg wt wc h0 h9 (by omega) hc hC
  have v2 : ∀ y, v ≤ y ↔ 448 ≤ y ∨ ∃ r w q, r < fac (uc S) ∧ LN S (XF S r) w q ∧ nbQ S (XF S r) w q (S 2) = 0 ∧ rk (bkQ S (XF S r) w q (S 2)) ≤ y := fun y => by rw [p3 y, LA_e hu]
  have hself : ∀ r w q, r < fac (uc S) → LN S (XF S r) w q → nbQ S (XF S r) w q (S 2) = 0 → fea S (bkQ S (XF S r) w q (S 2)) := fun r w q h1 h2 h3 => ⟨r, w, q, h1, h2, h3, fun _ h => h⟩
  refine ⟨_, m1, p1, p4, p5, fun m' hz => ?_⟩
  obtain ⟨m2, a1, a2, a3, a4, a5⟩ := ask_sp (n := n) wc hz
  obtain ⟨x2, m3, b1, b2, b3⟩ := drops_l wg wt wc h9 (2 ^ S 10) 0 n (-4) m2 (by omega) (by omega) (Kpm_z a2 hz) ⟨_, a3⟩ (Or.inl ⟨rfl, fun t ht => absurd ht (Nat.not_lt_zero t)⟩)
  refine ⟨m3, ?_, a2.tr b2⟩
  rw [mo_drops, if_neg (by rw [zO3_at hz (by omega) (by omega) (by omega) (by omega), h9]; decide), a1, Option.bind_some, a5, Option.bind_some, show mo_drops_l27 (nI (2 ^ S 10 - 1)) n (-4) 0 m2 = _ from b1, Option.bind_some]
  suffices hs : x2 = if v = 448 then -4 else nI v &&& 63 by rw [hs]
  rcases b3 with ⟨e1, e2⟩ | ⟨b, e1, e2, e3, e4⟩
  · have hv : v = 448 := by
      have h1 : v ≤ 448 := (v2 448).mpr (Or.inl (Nat.le_refl _))
      refine Classical.byContradiction fun t => ?_
      obtain ⟨r, w, q, h2, h3, h4, _⟩ := ((v2 447).mp (by omega)).resolve_left (by omega)
      exact e2 _ (bk_lt wc) (hself r w q h2 h3 h4)
    rw [e1, if_pos hv]
  · have hb64 : b < 64 := by omega
    obtain ⟨r, w, q, h1, h2, h3, h4⟩ := e3
    have hbl := bk_lt (S := S) (X := XF S r) (w := w) (q := q) wc
    obtain ⟨s1, s2⟩ := cnt_ss (show bkQ S (XF S r) w q (S 2) < 64 by omega) hb64 h4
    have s3 := e4 _ hbl (hself r w q h1 h2 h3)
    have hrk : ∀ z, rk z = 64 * cnt z + z := fun z => rfl
    have c6 := cnt_6 b hb64
    have hvb : v = rk b := le_eq fun y => by
      rw [v2 y]
      constructor
      · rintro (h | ⟨r', w', q', g1, g2, g3, g4⟩)
        · rw [hrk b]; omega
        · exact Nat.le_trans (e4 _ (bk_lt wc) (hself r' w' q' g1 g2 g3)) g4
      · intro h
        exact Or.inr ⟨r, w, q, h1, h2, h3, by omega⟩
    rw [hrk b] at hvb
    rw [e1, if_neg (by omega), show (63 : Int32) = nI (2 ^ 6 - 1) from rfl, fa_mask, hvb]
    congr 1
    omega
