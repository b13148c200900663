/-! THE CALLS OF THE SEARCH: others -/
def aT (t : Nat) : Int32 := if t = 0 then -1 else nI (t - 1)
theorem aT_1 : ∀ t, t < 5 → aT t + 1 = nI t ∧ (aT t < 4) := by decide
theorem aT_s : ∀ t, t < 5 → aT t + 1 = aT (t + 1) := by decide
theorem aT_g {S : Nat → Nat} {t f l : Nat} (ht : t < 5) (hf : f < 3) (hl : l < 2) : cT (SO S (6 * t + 2 * f + l) 4) = aT t ∧ SO S (6 * t + 2 * f + l) 5 = f ∧ SO S (6 * t + 2 * f + l) 6 = l := by
  refine ⟨?_, by rw [SO_5]; omega, by rw [SO_6]; omega⟩
  unfold aT
  rw [SO_4]
  by_cases y : t = 0
  · rw [if_pos (by omega), if_pos y]; rfl
  · rw [if_neg (by omega), if_neg y, show (6 * t + 2 * f + l) / 6 = t by omega]
    unfold cT
    rw [if_pos (by omega)]
theorem oth_it {S V : Nat → Nat} {t l j f n Mk : Nat} {b : Bool} {m : rn_Mem} (hn : 2000 < n) (wg : WG S) (wt : WT S) (wc : WC S) (h0 : S 0 = 1) (h9 : S 9 = 1) (hc : cS3 S V 3 m) (ht : t < 5) (hl : l < 2) (hj : j < 3) (hf : f < 3) (hs : rn_strict.getD j 0 = nI f) (hM : Mk < 2 ^ 30) (hb : b = true → otP S (6 * t + 2 * f + l)) : ∃ (m2 : rn_Mem) (b2 : Bool) (Mk2 : Nat), lt_findOthers_l22 (aT t) (nI l) (n + 1) (nI Mk) (if b = true then 1 else 0) (nI j) m = lt_findOthers_l22 (aT t) (nI l) n (nI Mk2) (if b2 = true then 1 else 0) (nI (j + 1)) m2 ∧ (b2 = true ↔ otP S (6 * t + 2 * f + l)) ∧ Mk2 < 2 ^ 30 ∧ (∀ x, Mk2.testBit x = true ↔ Mk.testBit x = true ∨ (x = 6 * t + 2 * f + l ∧ otP S x)) ∧ Kt m m2 := by
  obtain ⟨g4, g5, g6⟩ := aT_g (S := S) (t := t) ht hf hl
  have hg : 6 * t + 2 * f + l < 30 := by omega
  have hx : ∃ (m16 : rn_Mem) (b2 : Bool), ((if (if b = true then (1 : Int32) else 0) = 0 then (se_take n 3 m).bind fun m7 => (some (rm_i m7 52 4 (aT t))).bind fun (m9 : rn_Mem) => (some (rm_i m9 52 5 (nI f))).bind fun (m10 : rn_Mem) => (some (rm_i m10 52 6 (nI l))).bind fun (m11 : rn_Mem) => (se_findsOne n m11).bind fun (r13, m12) => some (r13, m12) else some (if b = true then (1 : Int32) else 0, m)) : Option (Int32 × rn_Mem)) = some (if b2 = true then 1 else 0, m16) ∧ (b2 = true ↔ otP S (6 * t + 2 * f + l)) ∧ Kt m m16 := by
    cases b with
    | true =>
      rw [if_neg (by decide)]
      exact ⟨m, true, rfl, ⟨fun _ => hb rfl, fun _ => rfl⟩, Kt.rf⟩
    | false =>
      rw [if_pos (show (if false = true then (1 : Int32) else 0) = 0 by decide)]
      obtain ⟨m2, b2, a1, a2, a3⟩ := game_sp (nf := n) hn wg wt wc h0 h9 hg hc
      rw [g4, g5, g6] at a1
      exact ⟨m2, b2, a1, a2, a3⟩
  obtain ⟨m16, b2, x1, x2, x3⟩ := hx
  have he : ((((6 : Int32) * (aT t + 1)) + ((2 : Int32) * nI f)) + nI l) = nI (6 * t + 2 * f + l) := by
    rw [(aT_1 t ht).1, show (6 : Int32) = nI 6 from rfl, show (2 : Int32) = nI 2 from rfl, pk_mul, pk_mul, nI_add, nI_add]
  have hst : lt_findOthers_l22 (aT t) (nI l) (n + 1) (nI Mk) (if b = true then 1 else 0) (nI j) m = lt_findOthers_l22 (aT t) (nI l) n (nI (if b2 = true then Mk ||| 2 ^ (6 * t + 2 * f + l) else Mk)) (if b2 = true then 1 else 0) (nI (j + 1)) m16 := by
    rw [lt_findOthers_l22, show Int32.ofNat rn_strict.length = nI 3 from rfl, if_pos (by rw [nI_ltI (by omega) (by omega)]; omega), if_pos (show rn_in (nI j) rn_strict.length = true from (in_n (by omega)).mpr hj), nI_n (by omega), hs, Option.bind_some]
    try simp only []
    rw [x1, Option.bind_some]
    try simp only []
    rw [he, shl_1 (by omega), fa_or]
    cases b2 with
    | true => rw [if_neg (by decide), Option.bind_some, Option.bind_some, nI_1, Option.bind_some]; rfl
    | false => rw [if_pos (show (if false = true then (1 : Int32) else 0) = 0 by decide), Option.bind_some, nI_1, Option.bind_some]; rfl
  refine ⟨m16, b2, _, hst, x2, ?_, fun x => ?_, x3⟩
  · cases b2 with
    | true => rw [if_pos rfl]; exact or_lt hM (pw_lt (by omega))
    | false => rw [if_neg (by decide)]; exact hM
  · cases b2 with
    | true =>
      have ho := x2.mp rfl
      rw [if_pos rfl, bit_set, Bool.or_eq_true, decide_eq_true_iff]
      exact ⟨fun h => h.elim Or.inl fun h => Or.inr ⟨h, by rw [h]; exact ho⟩, fun h => h.elim Or.inl fun h => Or.inr h.1⟩
    | false =>
      rw [if_neg (by decide)]
      exact ⟨Or.inl, fun h => h.elim id fun h => absurd (x2.mpr (by rw [← h.1]; exact h.2)) (by decide)⟩
theorem oth_22 {S V : Nat → Nat} {t l n Mk : Nat} {m : rn_Mem} (hn : 2100 < n) (wg : WG S) (wt : WT S) (wc : WC S) (h0 : S 0 = 1) (h9 : S 9 = 1) (hc : cS3 S V 3 m) (ht : t < 5) (hl : l < 2) (hM : Mk < 2 ^ 30) : ∃ (m2 : rn_Mem) (Mk2 : Nat), lt_findOthers_l22 (aT t) (nI l) n (nI Mk) 0 0 m = some (nI Mk2, m2) ∧ Mk2 < 2 ^ 30 ∧ (∀ x, Mk2.testBit x = true ↔ Mk.testBit x = true ∨ ∃ f, f < 3 ∧ x = 6 * t + 2 * f + l ∧ otP S x) ∧ Kt m m2 := by
  obtain ⟨n, rfl⟩ : ∃ k, n = k + 4 := ⟨n - 4, by omega⟩
  obtain ⟨m1, b1, M1, a1, a2, a3, a4, a5⟩ := oth_it (n := n + 3) (b := false) (j := 0) (f := 2) (by omega) wg wt wc h0 h9 hc ht hl (by omega) (by omega) rfl hM (fun t => absurd t (by decide))
  obtain ⟨m2, b2, M2, c1, c2, c3, c4, c5⟩ := oth_it (n := n + 2) (b := b1) (j := 1) (f := 0) (by omega) wg wt wc h0 h9 (a5.c hc) ht hl (by omega) (by omega) rfl a3 (fun t => ot_mono wg wt h9 ht hl (Or.inl ⟨rfl, rfl⟩) (a2.mp t))
  obtain ⟨m3, b3, M3, d1, d2, d3, d4, d5⟩ := oth_it (n := n + 1) (b := b2) (j := 2) (f := 1) (by omega) wg wt wc h0 h9 ((a5.tr c5).c hc) ht hl (by omega) (by omega) rfl c3 (fun t => ot_mono wg wt h9 ht hl (Or.inr ⟨rfl, rfl⟩) (c2.mp t))
  refine ⟨m3, M3, ?_, d3, fun x => ?_, (a5.tr c5).tr d5⟩
  · have e0 : lt_findOthers_l22 (aT t) (nI l) (n + 4) (nI Mk) 0 0 m = _ := a1
    rw [e0, c1, d1, lt_findOthers_l22, show Int32.ofNat rn_strict.length = nI 3 from rfl, if_neg (by decide)]
  · rw [d4 x, c4 x, a4 x]
    constructor
    · rintro (((h | h) | h) | h)
      · exact Or.inl h
      · exact Or.inr ⟨2, by omega, h⟩
      · exact Or.inr ⟨0, by omega, h⟩
      · exact Or.inr ⟨1, by omega, h⟩
    · rintro (h | ⟨f, hf, h⟩)
      · exact Or.inl (Or.inl (Or.inl h))
      · have e : f = 0 ∨ f = 1 ∨ f = 2 := by omega
        rcases e with rfl | rfl | rfl
        · exact Or.inl (Or.inr h)
        · exact Or.inr h
        · exact Or.inl (Or.inl (Or.inr h))
theorem oth_11 {S V : Nat → Nat} {t n Mk : Nat} {m : rn_Mem} (hn : 2200 < n) (wg : WG S) (wt : WT S) (wc : WC S) (h0 : S 0 = 1) (h9 : S 9 = 1) (hc : cS3 S V 3 m) (ht : t < 5) (hM : Mk < 2 ^ 30) : ∃ (m2 : rn_Mem) (Mk2 : Nat), lt_findOthers_l11 (aT t) n (nI Mk) 0 m = some (nI Mk2, m2) ∧ Mk2 < 2 ^ 30 ∧ (∀ x, Mk2.testBit x = true ↔ Mk.testBit x = true ∨ (6 * t ≤ x ∧ x < 6 * t + 6 ∧ otP S x)) ∧ Kt m m2 := by
  obtain ⟨n, rfl⟩ : ∃ k, n = k + 3 := ⟨n - 3, by omega⟩
  obtain ⟨m1, M1, a1, a2, a3, a4⟩ := oth_22 (n := n + 2) (l := 0) (by omega) wg wt wc h0 h9 hc ht (by omega) hM
  obtain ⟨m2, M2, c1, c2, c3, c4⟩ := oth_22 (n := n + 1) (l := 1) (by omega) wg wt wc h0 h9 (a4.c hc) ht (by omega) a2
  refine ⟨m2, M2, ?_, c2, fun x => ?_, a4.tr c4⟩
  · rw [show n + 3 = (n + 2) + 1 from rfl, lt_findOthers_l11, if_pos (by decide), show lt_findOthers_l22 (aT t) 0 (n + 2) (nI Mk) 0 0 m = _ from a1, Option.bind_some]
    try simp only []
    rw [Option.bind_some, show n + 2 = (n + 1) + 1 from rfl, lt_findOthers_l11, if_pos (by decide), show lt_findOthers_l22 (aT t) (0 + 1) (n + 1) (nI M1) 0 0 m1 = _ from c1, Option.bind_some]
    try simp only []
    rw [Option.bind_some, lt_findOthers_l11, if_neg (by decide)]
  · rw [c3 x, a3 x]
    constructor
    · rintro ((h | ⟨f, h1, h2, h3⟩) | ⟨f, h1, h2, h3⟩)
      · exact Or.inl h
      · exact Or.inr ⟨by omega, by omega, h3⟩
      · exact Or.inr ⟨by omega, by omega, h3⟩
    · rintro (h | ⟨h1, h2, h3⟩)
      · exact Or.inl (Or.inl h)
      · by_cases y : x % 2 = 0
        · exact Or.inl (Or.inr ⟨(x - 6 * t) / 2, by omega, by omega, h3⟩)
        · exact Or.inr ⟨(x - 6 * t) / 2, by omega, by omega, h3⟩
theorem oth_4 {S V : Nat → Nat} (wg : WG S) (wt : WT S) (wc : WC S) (h0 : S 0 = 1) (h9 : S 9 = 1) : ∀ (d t n Mk : Nat) (m : rn_Mem), t + d = 5 → d + 2300 < n → cS3 S V 3 m → Mk < 2 ^ 30 → ∃ (m2 : rn_Mem) (Mk2 : Nat), lt_findOthers_l4 n (nI Mk) (aT t) m = some (nI Mk2, m2) ∧ Mk2 < 2 ^ 30 ∧ (∀ x, Mk2.testBit x = true ↔ Mk.testBit x = true ∨ (6 * t ≤ x ∧ x < 30 ∧ otP S x)) ∧ Kt m m2 := by
  intro d
  induction d with
  | zero =>
    intro t n Mk m e hn hc hM
    obtain ⟨n, rfl⟩ : ∃ k, n = k + 1 := ⟨n - 1, by omega⟩
    obtain rfl : t = 5 := by omega
    refine ⟨m, Mk, by rw [lt_findOthers_l4, if_neg (by decide)], hM, fun x => ⟨Or.inl, fun h => h.elim id fun h => by omega⟩, Kt.rf⟩
  | succ d ih =>
    intro t n Mk m e hn hc hM
    obtain ⟨n, rfl⟩ : ∃ k, n = k + 1 := ⟨n - 1, by omega⟩
    obtain ⟨m1, M1, a1, a2, a3, a4⟩ := oth_11 (n := n) (t := t) (by omega) wg wt wc h0 h9 hc (by omega) hM
    obtain ⟨m2, M2, c1, c2, c3, c4⟩ := ih (t + 1) n M1 m1 (by omega) (by omega) (a4.c hc) a2
    refine ⟨m2, M2, ?_, c2, fun x => ?_, a4.tr c4⟩
    · rw [lt_findOthers_l4, if_pos (aT_1 t (by omega)).2, a1, Option.bind_some]
      try simp only []
      rw [aT_s t (by omega), Option.bind_some]
      exact c1
    · rw [c3 x, a3 x]
      constructor
      · rintro ((h | ⟨h1, h2, h3⟩) | ⟨h1, h2, h3⟩)
        · exact Or.inl h
        · exact Or.inr ⟨h1, by omega, h3⟩
        · exact Or.inr ⟨by omega, h2, h3⟩
      · rintro (h | ⟨h1, h2, h3⟩)
        · exact Or.inl (Or.inl h)
        · by_cases y : x < 6 * t + 6
          · exact Or.inl (Or.inr ⟨h1, y, h3⟩)
          · exact Or.inr ⟨by omega, h2, h3⟩
theorem otN_lt {S : Nat → Nat} : otN S < 2 ^ 30 := bm_lt _ 30
theorem otN_bit {S : Nat → Nat} {x : Nat} : (otN S).testBit x = true ↔ x < 30 ∧ otP S x := by
  unfold otN
  rw [bm_bit, Bool.and_eq_true, decide_eq_true_iff, dcB_iff]
theorem oth_all {S V : Nat → Nat} {n : Nat} {m : rn_Mem} (hn : 3000 < n) (wg : WG S) (wt : WT S) (wc : WC S) (h0 : S 0 = 1) (h9 : S 9 = 1) (hc : cS3 S V 3 m) : ∃ m2, lt_findOthers n m = some (nI (otN S), m2) ∧ Kt m m2 := by
  obtain ⟨m2, M2, c1, c2, c3, c4⟩ := oth_4 wg wt wc h0 h9 5 0 n 0 m (by omega) (by omega) hc (by decide)
  have e : M2 = otN S := ms_eq c2 otN_lt fun x hx => by
    rw [c3 x, otN_bit, Nat.zero_testBit]
    exact ⟨fun h => h.elim (fun t => absurd t (by decide)) fun h => h.2, fun h => Or.inr ⟨by omega, h⟩⟩
  refine ⟨m2, ?_, c4⟩
  rw [lt_findOthers, show lt_findOthers_l4 n 0 (-1) m = _ from c1, Option.bind_some, e]
/-- the caches after a search for one play -/
theorem CH_t {S : Nat → Nat} {m m2 : rn_Mem} {fr : Nat} (h : Kt m m2) (a1 : m.1 0 8 = nI fr) (a3 : fr.testBit 0 = true → S 9 = 1 ∧ CA S m) (a4 : fr.testBit 1 = true → S 9 = 1 ∧ CB S m) (a5 : fr.testBit 2 = true → S 9 = 1 ∧ CD S m) (a6 : fr.testBit 3 = true → S 9 = 1 ∧ m.1 0 9 = nI (tuN S)) (a7 : fr.testBit 4 = true → S 9 = 1 ∧ m.1 0 10 = nI (otN S)) : m2.1 0 8 = nI fr ∧ (fr.testBit 0 = true → S 9 = 1 ∧ CA S m2) ∧ (fr.testBit 1 = true → S 9 = 1 ∧ CB S m2) ∧ (fr.testBit 2 = true → S 9 = 1 ∧ CD S m2) ∧ (fr.testBit 3 = true → S 9 = 1 ∧ m2.1 0 9 = nI (tuN S)) ∧ (fr.testBit 4 = true → S 9 = 1 ∧ m2.1 0 10 = nI (otN S)) := by
  obtain ⟨k1, k2, k3, k4, k5, k6, k7⟩ := h
  have e0 := (k1 0 (by omega)).1
  refine ⟨by rw [e0]; exact a1, fun t => ⟨(a3 t).1, CA_k (a3 t).2 k2 k3 k4 k6⟩, fun t => ⟨(a4 t).1, CB_k (a4 t).2 k7⟩, fun t => ⟨(a5 t).1, CD_k (a5 t).2 k5⟩, by rw [e0]; exact a6, by rw [e0]; exact a7⟩
theorem oth_c {Mk i : Nat} (hM : Mk < 2 ^ 30) (hi : i < 30) : ∀ (d g n : Nat) (m : rn_Mem), g + d = 30 → d < n → m.1 0 10 = nI Mk → fb_ct (fun x => Mk.testBit x) g ≤ i → lt_others_l74 (nI i) n (nI (fb_ct (fun x => Mk.testBit x) g)) (nI g) m = some (if i < fb_ct (fun x => Mk.testBit x) 30 then .inl (nI (nth (fun x => Mk.testBit x) i 30), m) else .inr m) := by
  intro d
  induction d with
  | zero =>
    intro g n m e hn h10 hle
    obtain ⟨n, rfl⟩ : ∃ k, n = k + 1 := ⟨n - 1, by omega⟩
    obtain rfl : g = 30 := by omega
    rw [lt_others_l74, if_neg (by decide), if_neg (by omega)]
  | succ d ih =>
    intro g n m e hn h10 hle
    obtain ⟨n, rfl⟩ : ∃ k, n = k + 1 := ⟨n - 1, by omega⟩
    have hs := fb_ct_succ (fun x => Mk.testBit x) g
    rw [lt_others_l74, show (30 : Int32) = nI 30 from rfl, if_pos (by rw [nI_ltI (by omega) (by omega)]; omega), h10]
    cases y : Mk.testBit g with
    | false =>
      replace hs : fb_ct (fun x => Mk.testBit x) (g + 1) = fb_ct (fun x => Mk.testBit x) g := by
        rw [hs]
        show _ + (if Mk.testBit g = true then 1 else 0) = _
        rw [y]
        rfl
      rw [if_pos ((bit_0 (by omega) (by omega)).mpr y), nI_1, Option.bind_some, ← hs]
      exact ih (g + 1) n m (by omega) (by omega) h10 (by omega)
    | true =>
      rw [show (if (fun x => Mk.testBit x) g = true then 1 else 0) = 1 from if_pos y] at hs
      rw [if_neg (fun t => by rw [(bit_0 (by omega) (by omega)).mp t] at y; exact absurd y (by decide))]
      have hmo := fb_ct_mono (fun x => Mk.testBit x) (show g + 1 ≤ 30 by omega)
      by_cases z : fb_ct (fun x => Mk.testBit x) g = i
      · rw [if_pos (by rw [z]), if_pos (by omega), ← z, nth_of (p := fun x => Mk.testBit x) y (by omega)]
      · rw [if_neg (by rw [nI_eq (by omega) (by omega)]; exact z), nI_1, nI_1, Option.bind_some, Option.bind_some, ← hs]
        exact ih (g + 1) n m (by omega) (by omega) h10 (by omega)
theorem zOT_A {S T : Nat → Nat} {z : Nat → Int32} (h : A456 S T) (hz : zO3 S z) : zOT T z := by
  refine ⟨fun k h1 h2 h3 h4 => ?_, trivial, ?_, fun k h1 h2 => ?_⟩
  · rw [h k h2.1 h2.2.1 h2.2.2]; exact hz.1 k h1 h2.1 h3 h4
  · rw [h 8 (by omega) (by omega) (by omega)]; exact hz.2.2.1
  · rw [h k (by omega) (by omega) (by omega)]; exact hz.2.2.2 k h1 h2
/-- the reference's loop; i beyond 30 stands for a number that is never met -/
theorem oth_m {S : Nat → Nat} {i : Nat} {a : Int32} (wg : WG S) (wt : WT S) (wc : WC S) (h9 : S 9 = 1) (ha : ∀ k, k ≤ 30 → (nI k = a ↔ k = i)) : ∀ (d g n : Nat) (m : rn_Mem), g + d = 30 → d + 405000 < n → zO3 S (m.1 116) → m.1 115 6 = nI (2 ^ S 10 - 1) → m.1 115 7 = zT 4 → m.1 115 11 = 0 → (∀ c, c < 4 → (nI c = m.1 115 12 ↔ c = 4)) → fb_ct (fun x => (otN S).testBit x) g ≤ i → ∃ m2, mo_others_l37 a n (nI (fb_ct (fun x => (otN S).testBit x) g)) (nI g) m = some (if i < fb_ct (fun x => (otN S).testBit x) 30 then .inl (nI (nth (fun x => (otN S).testBit x) i 30), m2) else .inr (nI (fb_ct (fun x => (otN S).testBit x) 30), m2)) ∧ Kpm m m2 := by
  intro d
  induction d with
  | zero =>
    intro g n m e hn hz h6 h7 h11 h12 hle
    obtain ⟨n, rfl⟩ : ∃ k, n = k + 1 := ⟨n - 1, by omega⟩
    obtain rfl : g = 30 := by omega
    refine ⟨m, ?_, Kpm.rf⟩
    rw [mo_others_l37, if_neg (by decide), if_neg (by omega)]
  | succ d ih =>
    intro g n m e hn hz h6 h7 h11 h12 hle
    obtain ⟨n, rfl⟩ : ∃ k, n = k + 1 := ⟨n - 1, by omega⟩
    have hg : g < 30 := by omega
    have hx10 : (if nI g < 6 then some (-4 : Int32) else some ((nI g / 6) - 1)) = some (zT (SO S g 4)) := by
      rw [SO_4, show (6 : Int32) = nI 6 from rfl]
      by_cases y : g < 6
      · rw [if_pos (by rw [nI_ltI (by omega) (by omega)]; exact y), if_pos y]; rfl
      · rw [if_neg (by rw [nI_ltI (by omega) (by omega)]; exact y), if_neg y, pk_div (by omega) (by omega) (by omega), zT_n (by omega), show nI (g / 6) - 1 = nI (g / 6 - 1) from pk_sub (b := 1) (by omega)]
    have hx9 : rn_rem (nI g / 2) 3 = nI (SO S g 5) := by
      rw [SO_5, show (2 : Int32) = nI 2 from rfl, show (3 : Int32) = nI 3 from rfl, pk_div (by omega) (by omega) (by omega), rem_n (by omega) (by omega) (by omega)]
    have hx6 : rn_rem (nI g) 2 = nI (SO S g 6) := by
      rw [SO_6, show (2 : Int32) = nI 2 from rfl, rem_n (by omega) (by omega) (by omega)]
    generalize hm13 : rm_i (rm_i (rm_i m 115 8 (zT (SO S g 4))) 115 9 (nI (SO S g 5))) 115 10 (nI (SO S g 6)) = m13
    have k13 : Kpm m m13 := by rw [← hm13]; exact ((Kpm_i (by omega)).tr (Kpm_i (by omega))).tr (Kpm_i (by omega))
    have hA := SO_A (S := S) (g := g)
    have e10 := hA 10 (by omega) (by omega) (by omega)
    have i13 : ∀ j, j ≠ 8 → j ≠ 9 → j ≠ 10 → m13.1 115 j = m.1 115 j := fun j a b c => by rw [← hm13, mi_get, if_neg (fun t => c t.2), mi_get, if_neg (fun t => b t.2), mi_get, if_neg (fun t => a t.2)]
    have hR : RM (SO S g) 4 (2 ^ S 10 - 1) false 4 m13 := by
      refine ⟨by rw [i13 7 (by omega) (by omega) (by omega)]; exact h7, ?_, ?_, by rw [i13 6 (by omega) (by omega) (by omega)]; exact h6, ?_, by rw [i13 11 (by omega) (by omega) (by omega)]; exact h11, by rw [i13 12 (by omega) (by omega) (by omega)]; exact h12⟩
      · rw [← hm13, mi_get, if_neg (by omega), mi_get, if_neg (by omega), mi_get, if_pos ⟨rfl, rfl⟩]
      · rw [← hm13, mi_get, if_pos ⟨rfl, rfl⟩]
      · rw [← hm13, mi_get, if_neg (by omega), mi_get, if_pos ⟨rfl, rfl⟩]
    have hMl : 2 ^ S 10 - 1 < 2 ^ 31 := by
      have h1 : 2 ^ S 10 ≤ 2 ^ 6 := Nat.pow_le_pow_right (by decide) wc.1
      omega
    obtain ⟨m14, b, q1, q2, q3, q4⟩ := isPlay_sp (nf := n) (m := m13) (S := SO S g) (by omega) (WG_SO hg wg) (WT_A hA wt) (WC_A hA wc) (by rw [hA 9 (by omega) (by omega) (by omega)]; exact h9) (by omega) hMl (zOT_A hA (Kpm_z k13 hz)) hR
    have q4' : b = true ↔ (otN S).testBit g = true := by
      rw [q4, otN_bit]
      have e : ∀ r, XR (SO S g) 4 r = XF (SO S g) r := fun r => XT_4
      unfold otP
      rw [← e10]
      constructor
      · rintro ⟨r, w, q, h1, h2, h3⟩
        rw [e r] at h2 h3
        exact ⟨hg, r, w, q, h1, GM_full.mp ⟨h2, h3⟩⟩
      · rintro ⟨_, r, w, q, h1, h2⟩
        obtain ⟨a1, a2⟩ := GM_full.mpr h2
        exact ⟨r, w, q, h1, by rw [e r]; exact a1, by rw [e r]; exact a2⟩
    have k14 := k13.tr q2
    have r6 : m14.1 115 6 = nI (2 ^ S 10 - 1) := by rw [q3 6 (by omega), i13 6 (by omega) (by omega) (by omega)]; exact h6
    have r7 : m14.1 115 7 = zT 4 := by rw [q3 7 (by omega), i13 7 (by omega) (by omega) (by omega)]; exact h7
    have r11 : m14.1 115 11 = 0 := by rw [q3 11 (by omega), i13 11 (by omega) (by omega) (by omega)]; exact h11
    have r12 : ∀ c, c < 4 → (nI c = m14.1 115 12 ↔ c = 4) := by rw [q3 12 (by omega), i13 12 (by omega) (by omega) (by omega)]; exact h12
    have hs := fb_ct_succ (fun x => (otN S).testBit x) g
    have hmo := fb_ct_mono (fun x => (otN S).testBit x) (show g + 1 ≤ 30 by omega)
    have hl30 : fb_ct (fun x => (otN S).testBit x) 30 ≤ 30 := fb_ct_le _ _
    have hstep : mo_others_l37 a (n + 1) (nI (fb_ct (fun x => (otN S).testBit x) g)) (nI g) m = (if b = true then (if nI (fb_ct (fun x => (otN S).testBit x) g) = a then some (.inl (nI g, m14)) else mo_others_l37 a n (nI (fb_ct (fun x => (otN S).testBit x) g + 1)) (nI (g + 1)) m14) else mo_others_l37 a n (nI (fb_ct (fun x => (otN S).testBit x) g)) (nI (g + 1)) m14) := by
      rw [mo_others_l37, show (30 : Int32) = nI 30 from rfl, if_pos (by rw [nI_ltI (by omega) (by omega)]; omega)]
      try simp only []
      rw [hx10, Option.bind_some, Option.bind_some, hx9, Option.bind_some, hx6, Option.bind_some, hm13, q1, Option.bind_some]
      try simp only []
      cases b with
      | true => rw [if_neg (show ¬ (if true = true then (1 : Int32) else 0) = 0 by decide), if_pos (show true = true from rfl), nI_1, nI_1, Option.bind_some, Option.bind_some]
      | false => rw [if_pos (show (if false = true then (1 : Int32) else 0) = 0 by decide), if_neg (show ¬ false = true by decide), nI_1, Option.bind_some]
    rw [hstep]
    cases b with
    | false =>
      have y : (otN S).testBit g = false := by
        cases z : (otN S).testBit g with
        | false => rfl
        | true => exact absurd (q4'.mpr z) (by decide)
      replace hs : fb_ct (fun x => (otN S).testBit x) (g + 1) = fb_ct (fun x => (otN S).testBit x) g := by
        rw [hs]
        show _ + (if (otN S).testBit g = true then 1 else 0) = _
        rw [y]
        rfl
      rw [if_neg (by decide), ← hs]
      obtain ⟨m2, g1, g2⟩ := ih (g + 1) n m14 (by omega) (by omega) (Kpm_z k14 hz) r6 r7 r11 r12 (by omega)
      exact ⟨m2, g1, k14.tr g2⟩
    | true =>
      have y := q4'.mp rfl
      rw [show (if (fun x => (otN S).testBit x) g = true then 1 else 0) = 1 from if_pos y] at hs
      rw [if_pos (show true = true from rfl)]
      by_cases z : fb_ct (fun x => (otN S).testBit x) g = i
      · refine ⟨m14, ?_, k14⟩
        rw [if_pos ((ha _ (by omega)).mpr z), if_pos (by omega), ← z, nth_of (p := fun x => (otN S).testBit x) y (by omega)]
      · rw [if_neg (fun t => z ((ha _ (by omega)).mp t)), ← hs]
        obtain ⟨m2, g1, g2⟩ := ih (g + 1) n m14 (by omega) (by omega) (Kpm_z k14 hz) r6 r7 r11 r12 (by omega)
        exact ⟨m2, g1, k14.tr g2⟩
theorem S_others {S V : Nat → Nat} {n : Nat} {m : rn_Mem} (hn : 1000000 ≤ n) (hw : WF S) (hc : cS3 S V 3 m) (hC : CH S m) (a : Int32) : ∃ (r : Int32) (m1 : rn_Mem), lt_others n a m = some (r, m1) ∧ CH S m1 ∧ (∀ p i, (p < 51 ∨ 101 < p) → ¬ (p = 0 ∧ (i = 8 ∨ i = 10)) → m1.1 p i = m.1 p i) ∧ (∀ p, (p < 51 ∨ 101 < p) → m1.2 p = m.2 p) ∧ ∀ m' : rn_Mem, zO3 S (m'.1 116) → ∃ m2, mo_others n a m' = some (r, m2) ∧ Kpm m' m2 := by
  have c5 : m.1 5 0 = nI (S 9) := hc.2.1.1
  have ref : ∀ r : Int32, lt_others n a m = some (r, m) → (∀ m' : rn_Mem, zO3 S (m'.1 116) → mo_others n a m' = some (r, m')) → ∃ (r : Int32) (m1 : rn_Mem), lt_others n a m = some (r, m1) ∧ CH S m1 ∧ (∀ p i, (p < 51 ∨ 101 < p) → ¬ (p = 0 ∧ (i = 8 ∨ i = 10)) → m1.1 p i = m.1 p i) ∧ (∀ p, (p < 51 ∨ 101 < p) → m1.2 p = m.2 p) ∧ ∀ m' : rn_Mem, zO3 S (m'.1 116) → ∃ m2, mo_others n a m' = some (r, m2) ∧ Kpm m' m2 := fun r h1 h2 => ⟨r, m, h1, hC, fun _ _ _ _ => rfl, fun _ _ => rfl, fun m' hz => ⟨m', h2 m' hz, Kpm.rf⟩⟩
  by_cases ha : -1 ≤ a.toInt ∧ a.toInt ≤ 29
  case neg =>
    refine ref (-1) ?_ fun m' _ => ?_
    · unfold lt_others
      simp only [i_lt, tm1, t30]
      by_cases q : a.toInt < -1
      · rw [if_pos q]
      · rw [if_neg q, if_neg (by omega)]
    · unfold mo_others
      rw [mo_in_i n a (-1) 29 (-1) 29 m' (by decide) (by decide), if_neg ha]
      rfl
  rcases S9_01 hw with h9 | h9
  · refine ref (-2) ?_ fun m' hz => ?_
    · unfold lt_others
      rw [if_neg (by rw [i_lt, tm1]; omega), if_pos (by rw [i_lt, t30]; omega), if_pos (by rw [c5, h9]; rfl)]
    · unfold mo_others
      rw [mo_in_i n a (-1) 29 (-1) 29 m' (by decide) (by decide), if_pos ha, Option.bind_some]
      try simp only []
      rw [if_neg (by decide), if_pos (by rw [zO3_at hz (by omega) (by omega) (by omega) (by omega), h9]; rfl)]
  obtain ⟨h0, wg, wt, wc⟩ := WF_9 hw h9
  have hfind : ∃ m12, ((if ((m.1 0 8) &&& 16) = 0 then (lt_findOthers n m).bind fun (r6, m5) => (some (rm_i m5 0 10 r6)).bind fun (m8 : rn_Mem) => (some (rm_i m8 0 8 ((m8.1 0 8) ||| 16))).bind fun (m9 : rn_Mem) => some m9 else some m) : Option rn_Mem) = some m12 ∧ m12.1 0 10 = nI (otN S) ∧ CH S m12 ∧ (∀ p i, (p < 51 ∨ 101 < p) → ¬ (p = 0 ∧ (i = 8 ∨ i = 10)) → m12.1 p i = m.1 p i) ∧ ∀ p, (p < 51 ∨ 101 < p) → m12.2 p = m.2 p := by
    obtain ⟨fr, a1, a2, a3, a4, a5, a6, a7⟩ := hC
    rw [a1]
    by_cases z : fr.testBit 4 = false
    · obtain ⟨m5, t1, t2⟩ := oth_all (n := n) (by omega) wg wt wc h0 h9 hc
      obtain ⟨b1, b3, b4, b5, b6, b7⟩ := CH_t t2 a1 a3 a4 a5 a6 a7
      obtain ⟨o1, o2⟩ := fr_or fr a2 4 (by omega)
      generalize hmr : rm_i (rm_i m5 0 10 (nI (otN S))) 0 8 (nI (fr ||| 2 ^ 4)) = mr
      have g1 : ∀ p, p ≠ 0 → mr.1 p = m5.1 p := fun p hp => by rw [← hmr]; funext i; rw [mi_get, if_neg (fun t => hp t.1), mi_get, if_neg (fun t => hp t.1)]
      have g2 : mr.2 = m5.2 := by rw [← hmr]; rfl
      have g10 : mr.1 0 10 = nI (otN S) := by rw [← hmr, mi_get, if_neg (by omega), mi_get, if_pos ⟨rfl, rfl⟩]
      refine ⟨mr, ?_, g10, ⟨fr ||| 2 ^ 4, by rw [← hmr, mi_get, if_pos ⟨rfl, rfl⟩], o2, fun h => ⟨h9, CA_k (b3 (fr_bit h (by omega))).2 (by rw [g2]) (by rw [g1 51 (by omega)]) (by rw [g1 51 (by omega)]) (by rw [g1 68 (by omega)])⟩, fun h => ⟨h9, CB_k (b4 (fr_bit h (by omega))).2 (by rw [g1 69 (by omega)])⟩, fun h => ⟨h9, CD_k (b5 (fr_bit h (by omega))).2 (by rw [g1 51 (by omega)])⟩, fun h => ⟨h9, ?_⟩, fun _ => ⟨h9, g10⟩⟩, fun p i hp hn => ?_, fun p hp => ?_⟩
      · rw [if_pos (show nI fr &&& 16 = 0 from (fr_and fr a2 4 (by omega)).mpr z), t1, Option.bind_some]
        try simp only []
        rw [Option.bind_some, show (rm_i m5 0 10 (nI (otN S))).1 0 8 = nI fr by rw [mi_get, if_neg (by omega)]; exact b1, show (16 : Int32) = nI (2 ^ 4) from rfl, o1, hmr, Option.bind_some]
      · rw [← hmr, mi_get, if_neg (by omega), mi_get, if_neg (by omega)]
        exact (b6 (fr_bit h (by omega))).2
      · rw [← hmr, mi_get, if_neg (fun t => hn ⟨t.1, Or.inl t.2⟩), mi_get, if_neg (fun t => hn ⟨t.1, Or.inr t.2⟩), (t2.1 p hp).1]
      · rw [g2, (t2.1 p hp).2]
    · have z' : fr.testBit 4 = true := by cases h : fr.testBit 4 with | true => rfl | false => exact absurd h z
      refine ⟨m, ?_, (a7 z').2, ⟨fr, a1, a2, a3, a4, a5, a6, a7⟩, fun _ _ _ _ => rfl, fun _ _ => rfl⟩
      rw [if_neg (show ¬ nI fr &&& 16 = 0 from fun y => z ((fr_and fr a2 4 (by omega)).mp y))]
  obtain ⟨m12, f1, f2, f3, f4, f5⟩ := hfind
  have hL : lt_others n a m = (if a < 0 then (ja_bitCount n (m12.1 0 10) m12).bind fun (r15, m14) => some (r15, m14) else (lt_others_l74 a n 0 0 m12).bind fun q => match q with | .inl o => some o | .inr m25 => some ((-4), m25)) := by
    unfold lt_others
    rw [if_neg (by rw [i_lt, tm1]; omega), if_pos (by rw [i_lt, t30]; omega), if_neg (by rw [c5, h9]; decide)]
    try simp only []
    rw [f1, Option.bind_some]
    rfl
  have hM : ∀ m' : rn_Mem, zO3 S (m'.1 116) → mo_others n a m' = (mo_askAll n m').bind fun m6 => (mo_others_l37 a n 0 0 m6).bind fun q => match q with | .inl o => some o | .inr (x27, m25) => if a < 0 then some (x27, m25) else some ((-4), m25) := by
    intro m' hz
    unfold mo_others
    rw [mo_in_i n a (-1) 29 (-1) 29 m' (by decide) (by decide), if_pos ha, Option.bind_some]
    try simp only []
    rw [if_neg (by decide), if_neg (by rw [zO3_at hz (by omega) (by omega) (by omega) (by omega), h9]; decide)]
    rfl
  have hl30 : fb_ct (fun x => (otN S).testBit x) 30 ≤ 30 := fb_ct_le _ _
  have hO := otN_lt (S := S)
  have hask : ∀ m' : rn_Mem, zO3 S (m'.1 116) → ∀ i, (∀ k, k ≤ 30 → (nI k = a ↔ k = i)) → ∃ m6 m2, mo_askAll n m' = some m6 ∧ mo_others_l37 a n 0 0 m6 = some (if i < fb_ct (fun x => (otN S).testBit x) 30 then .inl (nI (nth (fun x => (otN S).testBit x) i 30), m2) else .inr (nI (fb_ct (fun x => (otN S).testBit x) 30), m2)) ∧ Kpm m' m2 := by
    intro m' hz i hi
    obtain ⟨m6, b1, b2, b3, b4, b5⟩ := ask_sp (n := n) wc hz
    obtain ⟨r1, r2, r3, r4, r5, r6, r7⟩ := b3
    obtain ⟨m2, d1, d2⟩ := oth_m wg wt wc h9 hi 30 0 n m6 (by omega) (by omega) (Kpm_z b2 hz) b5 r1 r6 r7 (Nat.zero_le _)
    exact ⟨m6, m2, b1, d1, b2.tr d2⟩
  by_cases y : a.toInt = -1
  · have e : a = -1 := by
      have : a.toInt = (-1 : Int32).toInt := by rw [y]; rfl
      exact Int32.toInt_inj.mp this
    have hcn : pcI (nI (otN S)) = nI (fb_ct (fun x => (otN S).testBit x) 30) := by
      rw [pc_all (by omega), show 32 = 30 + 2 from rfl, fb_ct_split, show fb_ct (fun k => (otN S).testBit (30 + k)) 2 = 0 from fb_ct_zero.mpr fun k _ => bit_high hO (by omega)]
      rfl
    refine ⟨nI (fb_ct (fun x => (otN S).testBit x) 30), m12, ?_, f3, f4, f5, fun m' hz => ?_⟩
    · rw [hL, if_pos (by rw [i_lt, t0]; omega), f2, bitCount_pc, Option.bind_some, hcn]
    · obtain ⟨m6, m2, q1, q2, q3⟩ := hask m' hz 1000 (fun k hk => by
        rw [e, show (-1 : Int32) = mI 1 from rfl, eq_nm (by omega) (by omega) (by omega)]
        exact ⟨fun h => h.elim, fun h => by omega⟩)
      refine ⟨m2, ?_, q3⟩
      rw [hM m' hz, q1, Option.bind_some, q2, if_neg (by omega), Option.bind_some]
      try simp only []
      rw [if_pos (by rw [i_lt, t0]; omega)]
  · obtain ⟨i, hi, rfl⟩ := i_nat (x := a) (k := 30) (by omega) (by omega)
    have hng : ¬ nI i < 0 := by rw [k0, nI_ltI (by omega) (by omega)]; omega
    refine ⟨if i < fb_ct (fun x => (otN S).testBit x) 30 then nI (nth (fun x => (otN S).testBit x) i 30) else -4, m12, ?_, f3, f4, f5, fun m' hz => ?_⟩
    · rw [hL, if_neg hng, show lt_others_l74 (nI i) n 0 0 m12 = _ from oth_c hO hi 30 0 n m12 (by omega) (by omega) f2 (Nat.zero_le _)]
      by_cases z : i < fb_ct (fun x => (otN S).testBit x) 30
      · rw [if_pos z, if_pos z]; rfl
      · rw [if_neg z, if_neg z]; rfl
    · obtain ⟨m6, m2, q1, q2, q3⟩ := hask m' hz i (fun k hk => nI_eq (by omega) (by omega))
      refine ⟨m2, ?_, q3⟩
      rw [hM m' hz, q1, Option.bind_some, q2]
      by_cases z : i < fb_ct (fun x => (otN S).testBit x) 30
      · rw [if_pos z, if_pos z]; rfl
      · rw [if_neg z, if_neg z, Option.bind_some]
        try simp only []
        rw [if_neg hng]
