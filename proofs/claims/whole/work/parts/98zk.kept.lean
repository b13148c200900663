/-! THE REFERENCE'S SEARCH: what is found of all plays -/
def JA (S : Nat → Nat) (m : rn_Mem) (n : Nat) : Prop := m.2 115 14 = lN n ∧ n < BBd ∧ (∀ x, x < 16 → ∃ v, v < 2 ^ 4 ∧ m.1 120 x = nI v) ∧ (∀ t, t < uc S → ∃ v, v < 2 ^ 16 ∧ m.1 121 t = nI v) ∧ (∀ k, k < 4 → (∃ v, v < 2 ^ 4 ∧ m.1 122 k = nI v) ∧ ∃ v, v < 2 ^ 4 ∧ m.1 123 k = nI v) ∧ (0 < n → ∃ f, rowM S f m)
def TA (S : Nat → Nat) : Nat × Nat × Nat → rn_Mem → Prop
  | (0, a, c), m => a < 16 ∧ ∃ v, v < 2 ^ 4 ∧ m.1 120 a = nI v ∧ v.testBit c = true
  | (1, a, c), m => a < uc S ∧ ∃ v, v < 2 ^ 16 ∧ m.1 121 a = nI v ∧ v.testBit c = true
  | (2, a, c), m => a < 4 ∧ ∃ v, v < 2 ^ 4 ∧ m.1 122 a = nI v ∧ v.testBit c = true
  | (3, a, c), m => a < 4 ∧ ∃ v, v < 2 ^ 4 ∧ m.1 123 a = nI v ∧ v.testBit c = true
  | (4, _, c), m => m.2 115 14 ≠ 0 ∧ ∃ f, rowM S f m ∧ pk16 f (1 + S 1 * S 2) ≤ c
  | (_ + 5, _, _), m => m.2 115 14 ≠ 0
def DA (S : Nat → Nat) (X : Nat → Nat → Nat → Nat) (r : Nat) (w q : Nat → Nat) : Nat × Nat × Nat → Prop
  | (0, a, c) => a < 16 ∧ ∃ k t, k < S 2 ∧ t < S 1 ∧ xcQ S X w q k t = a ∧ (ldQ S X w q k + t) % S 1 = c
  | (1, a, c) => a < uc S ∧ nth (msS S) (od (uc S) r a) 16 = c
  | (2, a, c) => a < S 2 ∧ ldQ S X w q a = c
  | (3, a, c) => a < S 2 ∧ w a = c
  | (4, _, c) => rwQ S X w q (S 2) ≤ c
  | (_ + 5, _, _) => True
theorem tb_or {A B : Int32} {u x k c : Nat} (hk : k ≤ 16) (hu : u < 2 ^ k) (hx : x < k) (hA : A = nI u) (hB : B = nI (u ||| 2 ^ x)) : (∃ v, v < 2 ^ k ∧ B = nI v ∧ v.testBit c = true) ↔ (∃ v, v < 2 ^ k ∧ A = nI v ∧ v.testBit c = true) ∨ x = c := by
  have h16 : (2 : Nat) ^ k ≤ 2 ^ 16 := Nat.pow_le_pow_right (by decide) hk
  have h2 : u ||| 2 ^ x < 2 ^ k := or_lt hu (pw_lt hx)
  subst hA hB
  constructor
  · rintro ⟨v, v1, v2, v3⟩
    rw [nI_eq (by omega) (by omega)] at v2
    rw [← v2, bit_set, Bool.or_eq_true, decide_eq_true_iff] at v3
    exact v3.elim (fun h => Or.inl ⟨u, hu, rfl, h⟩) fun h => Or.inr h.symm
  · rintro (⟨v, v1, v2, v3⟩ | h)
    · rw [nI_eq (by omega) (by omega)] at v2
      exact ⟨_, h2, rfl, by rw [bit_set, v2, v3]; rfl⟩
    · exact ⟨_, h2, rfl, by rw [bit_set, decide_eq_true h.symm, Bool.or_true]⟩
theorem cl_n {A : Int32} {v K : Nat} (h1 : v < K) (hK : K ≤ 65536) (h : A = nI v) : A.toNatClampNeg < K ∧ A = nI A.toNatClampNeg := by
  rw [h, nI_n (by omega)]
  exact ⟨h1, rfl⟩
theorem tb_eq {A B : Int32} {k c : Nat} (h : B = A) : (∃ v, v < 2 ^ k ∧ B = nI v ∧ v.testBit c = true) ↔ ∃ v, v < 2 ^ k ∧ A = nI v ∧ v.testBit c = true := by rw [h]
theorem rQ_lt {S : Nat → Nat} {X : Nat → Nat → Nat → Nat} {w q : Nat → Nat} (wg : WG S) (hH : HZ S X) (hF : FT S w) (hq : ∀ k, k < S 2 → q k < noS S) : ∀ i, i < 1 + S 1 * S 2 → rQ S X w q i < 16 := by
  have w1 : 2 ≤ S 1 := wg.1
  have w2 : S 1 ≤ 4 := wg.2.1
  intro i hi
  unfold rQ
  by_cases y : i = 0
  · rw [if_pos y]
    have := ldQ_lt (S := S) (X := X) (w := w) (q := q) (k := 0) (by omega)
    omega
  · rw [if_neg y]
    have hk : (i - 1) / S 1 < S 2 := by
      refine Classical.byContradiction fun n => ?_
      have h1 : S 1 * S 2 ≤ S 1 * ((i - 1) / S 1) := Nat.mul_le_mul_left _ (by omega)
      have := Nat.div_add_mod (i - 1) (S 1)
      omega
    exact hH.2 _ _ _ (hF.1 _ hk) (ixR hF hk).2 (od_in w1 w2 (hq _ hk) (Nat.mod_lt _ (by omega)))
theorem lN_0 {n : Nat} (h : n < BBd) : (lN n = 0 ↔ n = 0) ∧ (lg_cmp (lN n) 0 = 0 ↔ n = 0) ∧ (0 < lg_cmp (lN n) 0 ↔ 0 < n) := by
  have hb : n < 2 ^ 62 := h
  have e : lN n = 0 ↔ n = 0 := by
    have := fb_lN_inj (a := n) (b := 0) (by omega) (by omega)
    exact this
  refine ⟨e, by rw [lc_e]; exact e, ?_⟩
  rw [lc_gt, Int64.lt_iff_toInt_lt, lN_i63 hb, show (0 : Int64).toInt = 0 from rfl]
  omega
theorem keep_ahead {S : Nat → Nat} {X : Nat → Nat → Nat → Nat} {w q : Nat → Nat} {b M pc nf n : Nat} {cn : Bool} {m : rn_Mem} (hnf : 100 < nf) (wg : WG S) (hH : HZ S X) (hF : FT S w) (hb : b < S 1) (hJ : JA S m n) (hG : GB0 S X w b M cn pc m) (hT : TS S X w b 0 q m) : ∃ (ah : Bool) (f : Nat → Nat), (0 < n → rowM S f m) ∧ (ah = true ↔ n = 0 ∨ pk16 (rQ S X w q) (1 + S 1 * S 2) < pk16 f (1 + S 1 * S 2)) ∧ ∃ x7 x12 : Int32, (if (lg_cmp (m.2 115 14) 0) = 0 then some (1 : Int32) else if (m.1 129 0) < (m.1 124 0) then some 1 else some 0) = some x7 ∧ (if 0 < (lg_cmp (m.2 115 14) 0) then if (m.1 129 0) = (m.1 124 0) then some (1 : Int32) else some 0 else some 0) = some x12 ∧ mo_keepPlay_l99 nf x7 x12 0 m = some (if ah = true then 1 else 0, m) := by
  have w1 : 2 ≤ S 1 := wg.1
  have w2 : S 1 ≤ 4 := wg.2.1
  have w3 : 1 ≤ S 2 := wg.2.2.1
  have w4 : S 2 ≤ 4 := wg.2.2.2.1
  have w12 : S 1 * S 2 ≤ 12 := wg.2.2.2.2.1
  have hN : 0 < S 1 * S 2 := Nat.mul_pos (by omega) (by omega)
  have z1 : m.1 116 1 = nI (S 1) := hG.1.1 1 (by omega) (by omega) (by omega) (by omega)
  have z2 : m.1 116 2 = nI (S 2) := hG.1.1 2 (by omega) (by omega) (by omega) (by omega)
  have hsz : ∀ nf, mo_size nf m = some (nI (S 1 * S 2), m) := fun nf => by rw [mo_size, z1, z2, pk_mul]
  obtain ⟨l1, l2, l3⟩ := lN_0 hJ.2.1
  rw [hJ.1]
  have hq : ∀ k, k < S 2 → q k < noS S := fun k hk => (hT.1 k (Nat.zero_le k) hk).1.1
  have hr := rQ_lt wg hH hF hq
  have hr0 : rQ S X w q 0 = ldR S w b 0 := by
    unfold rQ
    rw [if_pos rfl]
    exact ld_ok wg hF hb (by omega) (hT.1 0 (Nat.le_refl 0) (by omega)).1.2.1
  have e129 : m.1 129 0 = nI (rQ S X w q 0) := by rw [hr0]; exact (hG.2.2.2.2.2.2 0 (by omega)).1
  have fin : ∀ x : Int32, mo_keepPlay_l99 nf x 0 0 m = some (x, m) := fun x => by
    obtain ⟨nf, rfl⟩ : ∃ e, nf = e + 1 := ⟨nf - 1, by omega⟩
    rw [mo_keepPlay_l99, hsz, Option.bind_some]
    try simp only []
    rw [if_pos (by rw [k0, nI_ltI (by omega) (by omega)]; exact hN)]
    rfl
  by_cases y : n = 0
  · refine ⟨true, fun _ => 0, fun h => by omega, ⟨fun _ => Or.inl y, fun _ => rfl⟩, 1, 0, ?_, ?_, fin 1⟩
    · rw [if_pos (l2.mpr y)]
    · rw [if_neg (fun t => by have := l3.mp t; omega)]
  · obtain ⟨f, hf⟩ := hJ.2.2.2.2.2 (by omega)
    obtain ⟨f0, f1⟩ := hf 0 (by omega)
    have hr00 := hr 0 (by omega)
    rw [if_neg (fun t => y (l2.mp t)), if_pos (l3.mpr (by omega)), e129, f0]
    by_cases y1 : rQ S X w q 0 < f 0
    · refine ⟨true, f, fun _ => hf, ⟨fun _ => Or.inr (pk16_lt2 (show 0 < 1 + S 1 * S 2 by omega) hr (fun j hj => (hf j hj).2) (fun i hi => absurd hi (Nat.not_lt_zero i)) y1), fun _ => rfl⟩, 1, 0, ?_, ?_, fin 1⟩
      · rw [if_pos (by rw [nI_ltI (by omega) (by omega)]; exact y1)]
      · rw [if_neg (by rw [nI_eq (by omega) (by omega)]; omega)]
    rw [if_neg (by rw [nI_ltI (by omega) (by omega)]; exact y1)]
    by_cases y2 : rQ S X w q 0 = f 0
    · rw [if_pos (by rw [y2])]
      obtain ⟨a2, g1, g2⟩ := kp_l99 wg hH hF hG hT hf hr (S 1 * S 2) 0 nf false (by omega) (by omega) (fun j hj => by rw [show j = 0 by omega]; exact y2)
      refine ⟨a2, f, fun _ => hf, ?_, 0, 1, rfl, rfl, g1⟩
      rcases g2 with g2 | ⟨g2, g3⟩
      · rw [g2]; exact ⟨Or.inr, fun h => h.resolve_left y⟩
      · rw [g2, g3]; exact ⟨fun t => absurd t (by decide), fun h => absurd (h.resolve_left y) (Nat.lt_irrefl _)⟩
    · rw [if_neg (by rw [nI_eq (by omega) (by omega)]; exact y2)]
      have h3 := pk16_lt2 (f := f) (g := rQ S X w q) (show 0 < 1 + S 1 * S 2 by omega) (fun j hj => (hf j hj).2) hr (fun i hi => absurd hi (Nat.not_lt_zero i)) (by omega)
      exact ⟨false, f, fun _ => hf, ⟨fun t => absurd t (by decide), fun h => by have := h.resolve_left y; omega⟩, 0, 0, rfl, rfl, fin 0⟩
/-- every card that lies is one of the pack -/
def PX (S : Nat → Nat) (X : Nat → Nat → Nat → Nat) : Prop := ∀ c i j, c < S 1 → i < mmS S c → j < S 1 → (S 3).testBit (X c i j) = true
theorem XF_PX {S : Nat → Nat} (wg : WG S) (wt : WT S) (h9 : S 9 = 1) {r : Nat} (hr : r < fac (uc S)) : PX S (XF S r) := by
  intro c i j hc hi hj
  obtain ⟨k1, k2, k3, k4⟩ := XF_k wg wt h9 hc hi hj
  have hsl := sl_in wt h9 hc hi hj
  unfold XF
  by_cases y : S (16 + (12 * c + S 1 * i + j)) < 16
  · rw [if_pos y]
    have := ((wt.2 h9).2.2.1 c (S 1 * i + j) hc hsl).2
    rw [show 16 + 12 * c + (S 1 * i + j) = 16 + (12 * c + S 1 * i + j) by omega] at this
    exact this y
  · rw [if_neg y]
    have hun : unS S (12 * c + S 1 * i + j) = true := by unfold unS; rw [k1, decide_eq_true (by omega)]; rfl
    have := (XF_u wg wt h9 hr hun k2).2.2.2.1
    unfold msS at this
    rw [Bool.and_eq_true] at this
    exact this.1
theorem XT_PX {S : Nat → Nat} {X : Nat → Nat → Nat → Nat} {tc : Nat} (h : PX S X) : PX S (XT S tc X) := fun c i j hc hi hj => by
  unfold XT
  exact h c _ j hc (by split <;> omega) hj
theorem rowM_v {S f g : Nat → Nat} {m : rn_Mem} (hf : rowM S f m) (hg : rowM S g m) : pk16 f (1 + S 1 * S 2) = pk16 g (1 + S 1 * S 2) := pk16_c fun i hi => by
  have h1 := hf i hi
  have h2 := hg i hi
  have : nI (f i) = nI (g i) := by rw [← h1.1, h2.1]
  rw [nI_eq (by omega) (by omega)] at this
  exact this
theorem keep_sp {S : Nat → Nat} {X : Nat → Nat → Nat → Nat} {w q : Nat → Nat} {b M pc r nf n : Nat} {m : rn_Mem} (hnf : 100 < nf) (wg : WG S) (wt : WT S) (h9 : S 9 = 1) (hr : r < fac (uc S)) (hH : HZ S X) (hD : DX S X) (hX : SX S X) (hP : PX S X) (hF : FT S w) (hb : b < S 1) (hE : EW S r w m) (hJ : JA S m n) (hG : GB0 S X w b M false pc m) (hT : TS S X w b 0 q m) (hn : n + 1 < BBd) : ∃ m2, mo_keepPlay nf m = some m2 ∧ Kgb m m2 ∧ (∀ p, 133 ≤ p → p ≤ 136 → m2.1 p = m.1 p) ∧ JA S m2 (n + 1) ∧ ∀ i, TA S i m2 ↔ TA S i m ∨ DA S X r w q i := by
  have w1 : 2 ≤ S 1 := wg.1
  have w2 : S 1 ≤ 4 := wg.2.1
  have w3 : 1 ≤ S 2 := wg.2.2.1
  have w4 : S 2 ≤ 4 := wg.2.2.2.1
  have w12 : S 1 * S 2 ≤ 12 := wg.2.2.2.2.1
  have hu : uc S ≤ 3 := (wt.2 h9).2.2.2.2
  obtain ⟨hL, hfil⟩ := hE.1
  have hq : ∀ k, k < S 2 → q k < noS S := fun k hk => (hT.1 k (Nat.zero_le k) hk).1.1
  have hld : ∀ k, k < S 2 → ldQ S X w q k = ldR S w b k := fun k hk => ld_ok wg hF hb hk (hT.1 k (Nat.zero_le k) hk).1.2.1
  have hldl : ∀ k, k < S 2 → ldR S w b k < 4 := fun k hk => Nat.lt_of_lt_of_le (ldR_lt wg hb fun j hj => hF.1 j (by omega)) w2
  have hrl := rQ_lt wg hH hF hq
  obtain ⟨ah, f, a1, a2, x7, x12, a3, a4, a5⟩ := keep_ahead (nf := nf) hnf wg hH hF hb hJ hG hT
  have hJ' := hJ
  obtain ⟨j1, j2, j3, j4, j5, j6⟩ := hJ
  -- the row
  have hrow : ∃ m62, (if (if ah = true then (1 : Int32) else 0) = 0 then some m else (some (rm_i m 124 0 (m.1 129 0))).bind fun (m41 : rn_Mem) => (mo_keepPlay_l179 nf 0 m41).bind fun m54 => some m54) = some m62 ∧ m62.2 = m.2 ∧ (∀ p, p ≠ 124 → m62.1 p = m.1 p) ∧ rowM S (if ah = true then rQ S X w q else f) m62 := by
    cases ah with
    | false =>
      refine ⟨m, rfl, rfl, fun _ _ => rfl, ?_⟩
      rw [if_neg (by decide)]
      refine a1 ?_
      by_cases y : n = 0
      · exact absurd (a2.mpr (Or.inl y)) (by decide)
      · omega
    | true =>
      generalize hm41 : rm_i m 124 0 (m.1 129 0) = m41
      have f41 : ∀ p, p ≠ 124 → m41.1 p = m.1 p := fun p hp => by rw [← hm41]; funext i; rw [mi_get, if_neg (fun t => hp t.1)]
      obtain ⟨m54, b1, b2, b3, b4⟩ := kp_l179 (X := X) (w := w) (q := q) (b := b) (M := M) (pc := pc) (cn := false) wg (S 1 * S 2) 0 nf m41 (by omega) (by omega) (GB0_k hG (fun p hp => f41 p (by omega)) (fun i _ => by rw [f41 115 (by omega)])) (TS_k hT (fun j _ _ => by rw [f41 133 (by omega)]) (fun p h1 h2 => f41 p (by omega))) (fun j hj => by
        obtain rfl : j = 0 := by omega
        rw [← hm41, mi_get, if_pos ⟨rfl, rfl⟩, (hG.2.2.2.2.2.2 0 (by omega)).1, ← hld 0 (by omega)]
        unfold rQ
        rw [if_pos rfl])
      refine ⟨m54, ?_, by rw [b3, ← hm41, mi_2], fun p hp => by rw [b4 p hp, f41 p hp], ?_⟩
      · rw [if_neg (show ¬ (if true = true then (1 : Int32) else 0) = 0 by decide), Option.bind_some, show mo_keepPlay_l179 nf 0 m41 = some m54 from b1, Option.bind_some]
      · rw [if_pos rfl]
        exact fun i hi => ⟨b2 i hi, hrl i hi⟩
  obtain ⟨m62, r1, r2, r3, r4⟩ := hrow
  generalize hm63 : rm_j m62 115 14 (lN (n + 1)) = m63
  have f63 : m63.1 = m62.1 := by rw [← hm63, mj_1]
  have g63 : ∀ p i, m63.2 p i = if p = 115 ∧ i = 14 then lN (n + 1) else m.2 p i := fun p i => by rw [← hm63, mj_get, r2]
  -- held
  obtain ⟨hv, hhv⟩ : ∃ hv : Nat → Nat, ∀ x, x < 16 → hv x < 2 ^ 4 ∧ m.1 120 x = nI (hv x) := ⟨fun x => (m.1 120 x).toNatClampNeg, fun x hx => by
    obtain ⟨v, v1, v2⟩ := j3 x hx
    exact cl_n v1 (by decide) v2⟩
  obtain ⟨pl, hpl⟩ : ∃ pl : Nat → Nat, ∀ k t, k < S 2 → t < S 1 → pl (xcQ S X w q k t) = (ldR S w b k + t) % S 1 := ⟨fun x => (m.1 136 x).toNatClampNeg, fun k t hk ht => by
    show (m.1 136 (xcQ S X w q k t)).toNatClampNeg = _
    have hmd : (ldR S w b k + t) % S 1 < S 1 := Nat.mod_lt _ (by omega)
    rw [(hT.1 k (Nat.zero_le k) hk).2 t ht, nI_n (by omega)]⟩
  have hxk : ∀ x, x < 16 → (S 3).testBit x = true → ∃ k t, k < S 2 ∧ t < S 1 ∧ xcQ S X w q k t = x := fun x hx hp => by
    obtain ⟨k, t, h1, h2, h3⟩ := SX_tr hX hF hx hp
    obtain ⟨s, hs, hso⟩ := od_sur w2 (Nat.lt_of_lt_of_le (hq k h1) (noS_fac w1 w2)) h2
    exact ⟨k, s, h1, hs, by unfold xcQ; rw [hso]; exact h3⟩
  have hp136 : ∀ x, x < 16 → (S 3).testBit x = true → m.1 136 x = nI (pl x) ∧ pl x < 4 := fun x hx hp => by
    obtain ⟨k, t, h1, h2, h3⟩ := hxk x hx hp
    have hmd : (ldR S w b k + t) % S 1 < S 1 := Nat.mod_lt _ (by omega)
    rw [← h3, hpl k t h1 h2]
    exact ⟨(hT.1 k (Nat.zero_le k) h1).2 t h2, by omega⟩
  obtain ⟨m80, c1, c2, c3, c4⟩ := kp_l218 (hv := hv) (pl := pl) wg (fun x hx => (hhv x hx).1) (fun x hx hp => (hp136 x hx hp).2) 16 0 nf m63 (by omega) (by omega) (by rw [f63, r3 116 (by omega)]; exact hG.1.1 3 (by omega) (by omega) (by omega) (by omega)) (fun y hy hp => by rw [f63, r3 136 (by omega)]; exact (hp136 y hy hp).1) (fun y _ hy => by rw [f63, r3 120 (by omega)]; exact (hhv y hy).2) (fun y hy => absurd hy (Nat.not_lt_zero y))
  -- under
  obtain ⟨uv, huv⟩ : ∃ uv : Nat → Nat, ∀ t, t < uc S → uv t < 2 ^ 16 ∧ m.1 121 t = nI (uv t) := ⟨fun x => (m.1 121 x).toNatClampNeg, fun x hx => by
    obtain ⟨v, v1, v2⟩ := j4 x hx
    exact cl_n v1 (by decide) v2⟩
  have hcd : ∀ t, t < uc S → nth (msS S) (od (uc S) r t) 16 < 16 := fun t ht => by
    obtain ⟨n1, n2, n3⟩ := nth_sp (p := unS S) (s := t) (N := 48) (by rw [un_48 wg wt h9]; exact ht)
    have := XF_u wg wt h9 hr n2 n1
    rw [n3] at this
    exact this.2.2.1
  have e80 : ∀ p, p ≠ 120 → p ≠ 124 → m80.1 p = m.1 p := fun p h1 h2 => by rw [c4 p h1, f63, r3 p h2]
  obtain ⟨m93, d1, d2, d3, d4⟩ := kp_l261 (U := uc S) (uv := uv) (cd := fun t => nth (msS S) (od (uc S) r t) 16) (at' := fun t => nth (unS S) t 48) hu hcd (fun t ht => (nth_sp (p := unS S) (s := t) (N := 48) (by rw [un_48 wg wt h9]; exact ht)).1) (uc S) 0 nf m80 (by omega) (by omega) (by rw [e80 115 (by omega) (by omega)]; exact hL.2.2.1) (fun s hs => by rw [e80 125 (by omega) (by omega), e80 127 (by omega) (by omega)]; exact ⟨hL.2.2.2.2.1 s hs, hfil s hs⟩) (fun s _ hs => by rw [e80 121 (by omega) (by omega)]; exact (huv s hs).2) (fun s hs => absurd hs (Nat.not_lt_zero s))
  -- led, won
  obtain ⟨lv, hlv⟩ : ∃ lv : Nat → Nat, ∀ k, k < 4 → lv k < 2 ^ 4 ∧ m.1 122 k = nI (lv k) := ⟨fun x => (m.1 122 x).toNatClampNeg, fun x hx => by
    obtain ⟨v, v1, v2⟩ := (j5 x hx).1
    exact cl_n v1 (by decide) v2⟩
  obtain ⟨wv, hwv⟩ : ∃ wv : Nat → Nat, ∀ k, k < 4 → wv k < 2 ^ 4 ∧ m.1 123 k = nI (wv k) := ⟨fun x => (m.1 123 x).toNatClampNeg, fun x hx => by
    obtain ⟨v, v1, v2⟩ := (j5 x hx).2
    exact cl_n v1 (by decide) v2⟩
  have e93 : ∀ p, p ≠ 120 → p ≠ 121 → p ≠ 124 → m93.1 p = m.1 p := fun p h1 h2 h3 => by rw [d4 p h2, e80 p h1 h3]
  obtain ⟨m109, g1, g2, g2b, g3, g4⟩ := kp_l299 (S := S) (lv := lv) (wv := wv) (ld := ldR S w b) (wn := w) wg (fun k hk => ⟨hldl k hk, Nat.lt_of_lt_of_le (hF.1 k hk) w2⟩) (S 2) 0 nf m93 (by omega) (by omega) (by rw [e93 116 (by omega) (by omega) (by omega)]; exact hG.1.1 2 (by omega) (by omega) (by omega) (by omega)) (fun j hj => by rw [e93 129 (by omega) (by omega) (by omega), e93 128 (by omega) (by omega) (by omega)]; exact ⟨(hG.2.2.2.2.2.2 j hj).1, hE.2 j hj⟩) (fun j _ hj => by rw [e93 122 (by omega) (by omega) (by omega), e93 123 (by omega) (by omega) (by omega)]; exact ⟨(hlv j (by omega)).2, (hwv j (by omega)).2⟩) (fun j hj => absurd hj (Nat.not_lt_zero j))
  have E : ∀ p, p ≠ 120 → p ≠ 121 → p ≠ 122 → p ≠ 123 → p ≠ 124 → m109.1 p = m.1 p := fun p h1 h2 h3 h4 h5 => by rw [g4 p h3 h4, e93 p h1 h2 h5]
  have E2 : ∀ p i, m109.2 p i = if p = 115 ∧ i = 14 then lN (n + 1) else m.2 p i := fun p i => by rw [g3, d3, c3, g63]
  have E120 : ∀ y, y < 16 → m109.1 120 y = nI (hv y ||| (if (S 3).testBit y = true then 2 ^ pl y else 0)) := fun y hy => by rw [g4 120 (by omega) (by omega), d4 120 (by omega)]; exact c2 y hy
  have E121 : ∀ s, s < uc S → m109.1 121 s = nI (uv s ||| 2 ^ nth (msS S) (od (uc S) r s) 16) := fun s hs => by rw [g4 121 (by omega) (by omega)]; exact d2 s hs
  have E124 : rowM S (if ah = true then rQ S X w q else f) m109 := fun i hi => by rw [g4 124 (by omega) (by omega), d4 124 (by omega), c4 124 (by omega), f63]; exact r4 i hi
  have E122 : ∀ j, S 2 ≤ j → m109.1 122 j = m.1 122 j ∧ m109.1 123 j = m.1 123 j := fun j hj => by
    rw [(g2b j hj).1, (g2b j hj).2, e93 122 (by omega) (by omega) (by omega), e93 123 (by omega) (by omega) (by omega)]; exact ⟨rfl, rfl⟩
  have hin : ∀ k t, k < S 2 → t < S 1 → (S 3).testBit (xcQ S X w q k t) = true := fun k t hk ht => hP _ _ _ (hF.1 k hk) (ixR hF hk).2 (od_in w1 w2 (hq k hk) ht)
  have hn1 : m109.2 115 14 = lN (n + 1) := by rw [E2, if_pos ⟨rfl, rfl⟩]
  have hne : m109.2 115 14 ≠ 0 := by rw [hn1]; exact fun t => absurd ((lN_0 hn).1.mp t) (by omega)
  refine ⟨m109, ?_, ⟨fun p h1 h2 h3 => E p (by omega) (by omega) (by omega) (by omega) (by omega), fun i hi => by rw [E 115 (by omega) (by omega) (by omega) (by omega) (by omega)], fun p i h => by rw [E2, if_neg h]⟩, fun p h1 h2 => E p (by omega) (by omega) (by omega) (by omega) (by omega), ?_, ?_⟩
  · rw [mo_keepPlay, if_pos (show m.1 115 11 = 0 from hG.2.2.2.2.1)]
    try simp only []
    rw [a3, Option.bind_some]
    try simp only []
    rw [a4, Option.bind_some, a5, Option.bind_some]
    try simp only []
    rw [r1, Option.bind_some, r2, j1, show lN n + 1 = lN (n + 1) from lN_add n 1, hm63, Option.bind_some, show mo_keepPlay_l218 nf 0 m63 = some m80 from c1, Option.bind_some, show mo_keepPlay_l261 nf 0 m80 = some m93 from d1, Option.bind_some, show mo_keepPlay_l299 nf 0 m93 = some m109 from g1, Option.bind_some]
  · refine ⟨hn1, hn, fun x hx => ?_, fun t ht => ?_, fun k hk => ?_, fun _ => ⟨_, E124⟩⟩
    · refine ⟨_, ?_, E120 x hx⟩
      refine or_lt (hhv x hx).1 ?_
      by_cases y : (S 3).testBit x = true
      · rw [if_pos y]; exact pw_lt (hp136 x hx y).2
      · rw [if_neg y]; decide
    · exact ⟨_, or_lt (huv t ht).1 (pw_lt (hcd t ht)), E121 t ht⟩
    · by_cases y : k < S 2
      · exact ⟨⟨_, or_lt (hlv k hk).1 (pw_lt (hldl k y)), (g2 k y).1⟩, ⟨_, or_lt (hwv k hk).1 (pw_lt (Nat.lt_of_lt_of_le (hF.1 k y) w2)), (g2 k y).2⟩⟩
      · rw [(E122 k (by omega)).1, (E122 k (by omega)).2]
        exact j5 k hk
  · rintro ⟨_ | _ | _ | _ | _ | t, a, c⟩
    · show (a < 16 ∧ ∃ v, v < 2 ^ 4 ∧ m109.1 120 a = nI v ∧ v.testBit c = true) ↔ (a < 16 ∧ ∃ v, v < 2 ^ 4 ∧ m.1 120 a = nI v ∧ v.testBit c = true) ∨ (a < 16 ∧ ∃ k t, k < S 2 ∧ t < S 1 ∧ xcQ S X w q k t = a ∧ (ldQ S X w q k + t) % S 1 = c)
      by_cases ha : a < 16
      case neg => exact ⟨fun h => absurd h.1 ha, fun h => h.elim (fun h => absurd h.1 ha) (fun h => absurd h.1 ha)⟩
      have hb1 := E120 a ha
      by_cases hp : (S 3).testBit a = true
      · rw [if_pos hp] at hb1
        have key := tb_or (c := c) (k := 4) (by omega) (hhv a ha).1 (hp136 a ha hp).2 (hhv a ha).2 hb1
        rw [key]
        constructor
        · rintro ⟨_, h | h⟩
          · exact Or.inl ⟨ha, h⟩
          · obtain ⟨k, t, h1, h2, h3⟩ := hxk a ha hp
            exact Or.inr ⟨ha, k, t, h1, h2, h3, by rw [hld k h1, ← hpl k t h1 h2, h3]; exact h⟩
        · rintro (⟨_, h⟩ | ⟨_, k, t, h1, h2, h3, h4⟩)
          · exact ⟨ha, Or.inl h⟩
          · exact ⟨ha, Or.inr (by rw [← h3, hpl k t h1 h2, ← hld k h1]; exact h4)⟩
      · rw [if_neg hp, Nat.or_zero, ← (hhv a ha).2] at hb1
        rw [hb1]
        refine ⟨Or.inl, fun h => h.elim id fun ⟨_, k, t, h1, h2, h3, _⟩ => ?_⟩
        have := hin k t h1 h2
        rw [h3] at this
        exact absurd this hp
    · show (a < uc S ∧ ∃ v, v < 2 ^ 16 ∧ m109.1 121 a = nI v ∧ v.testBit c = true) ↔ (a < uc S ∧ ∃ v, v < 2 ^ 16 ∧ m.1 121 a = nI v ∧ v.testBit c = true) ∨ (a < uc S ∧ nth (msS S) (od (uc S) r a) 16 = c)
      by_cases ha : a < uc S
      case neg => exact ⟨fun h => absurd h.1 ha, fun h => h.elim (fun h => absurd h.1 ha) (fun h => absurd h.1 ha)⟩
      rw [tb_or (c := c) (k := 16) (by omega) (huv a ha).1 (hcd a ha) (huv a ha).2 (E121 a ha)]
      exact ⟨fun h => h.2.elim (fun t => Or.inl ⟨ha, t⟩) fun t => Or.inr ⟨ha, t⟩, fun h => h.elim (fun t => ⟨ha, Or.inl t.2⟩) fun t => ⟨ha, Or.inr t.2⟩⟩
    · show (a < 4 ∧ ∃ v, v < 2 ^ 4 ∧ m109.1 122 a = nI v ∧ v.testBit c = true) ↔ (a < 4 ∧ ∃ v, v < 2 ^ 4 ∧ m.1 122 a = nI v ∧ v.testBit c = true) ∨ (a < S 2 ∧ ldQ S X w q a = c)
      by_cases ha : a < S 2
      case neg =>
        rw [(E122 a (by omega)).1]
        exact ⟨Or.inl, fun h => h.elim id fun h => absurd h.1 ha⟩
      rw [tb_or (c := c) (k := 4) (by omega) (hlv a (by omega)).1 (hldl a ha) (hlv a (by omega)).2 (g2 a ha).1, hld a ha]
      exact ⟨fun h => h.2.elim (fun t => Or.inl ⟨h.1, t⟩) fun t => Or.inr ⟨ha, t⟩, fun h => h.elim (fun t => ⟨t.1, Or.inl t.2⟩) fun t => ⟨by omega, Or.inr t.2⟩⟩
    · show (a < 4 ∧ ∃ v, v < 2 ^ 4 ∧ m109.1 123 a = nI v ∧ v.testBit c = true) ↔ (a < 4 ∧ ∃ v, v < 2 ^ 4 ∧ m.1 123 a = nI v ∧ v.testBit c = true) ∨ (a < S 2 ∧ w a = c)
      by_cases ha : a < S 2
      case neg =>
        rw [(E122 a (by omega)).2]
        exact ⟨Or.inl, fun h => h.elim id fun h => absurd h.1 ha⟩
      rw [tb_or (c := c) (k := 4) (by omega) (hwv a (by omega)).1 (Nat.lt_of_lt_of_le (hF.1 a ha) w2) (hwv a (by omega)).2 (g2 a ha).2]
      exact ⟨fun h => h.2.elim (fun t => Or.inl ⟨h.1, t⟩) fun t => Or.inr ⟨ha, t⟩, fun h => h.elim (fun t => ⟨t.1, Or.inl t.2⟩) fun t => ⟨by omega, Or.inr t.2⟩⟩
    · show (m109.2 115 14 ≠ 0 ∧ ∃ f, rowM S f m109 ∧ pk16 f (1 + S 1 * S 2) ≤ c) ↔ (m.2 115 14 ≠ 0 ∧ ∃ f, rowM S f m ∧ pk16 f (1 + S 1 * S 2) ≤ c) ∨ rwQ S X w q (S 2) ≤ c
      rw [rw_pk (by omega)]
      have e1 : (m109.2 115 14 ≠ 0 ∧ ∃ f, rowM S f m109 ∧ pk16 f (1 + S 1 * S 2) ≤ c) ↔ pk16 (if ah = true then rQ S X w q else f) (1 + S 1 * S 2) ≤ c := ⟨fun ⟨_, g, h1, h2⟩ => by rw [rowM_v E124 h1]; exact h2, fun h => ⟨hne, _, E124, h⟩⟩
      rw [e1]
      by_cases y : n = 0
      · have hz : m.2 115 14 = 0 := by rw [j1]; exact (lN_0 j2).1.mpr y
        rw [a2.mpr (Or.inl y), if_pos rfl]
        exact ⟨Or.inr, fun h => h.elim (fun h => absurd hz h.1) id⟩
      · have hz : m.2 115 14 ≠ 0 := by rw [j1]; exact fun t => y ((lN_0 j2).1.mp t)
        have hf := a1 (by omega)
        have e2 : (m.2 115 14 ≠ 0 ∧ ∃ f, rowM S f m ∧ pk16 f (1 + S 1 * S 2) ≤ c) ↔ pk16 f (1 + S 1 * S 2) ≤ c := ⟨fun ⟨_, g, h1, h2⟩ => by rw [rowM_v hf h1]; exact h2, fun h => ⟨hz, _, hf, h⟩⟩
        rw [e2]
        cases ah with
        | true =>
          have := (a2.mp rfl).resolve_left y
          rw [if_pos rfl]
          omega
        | false =>
          have : ¬ pk16 (rQ S X w q) (1 + S 1 * S 2) < pk16 f (1 + S 1 * S 2) := fun t => absurd (a2.mpr (Or.inr t)) (by decide)
          rw [if_neg (by decide)]
          omega
    · exact ⟨fun _ => Or.inr trivial, fun _ => hne⟩
