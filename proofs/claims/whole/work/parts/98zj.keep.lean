/-! THE REFERENCE'S SEARCH: a play is kept -/
def rQ (S : Nat → Nat) (X : Nat → Nat → Nat → Nat) (w q : Nat → Nat) (i : Nat) : Nat := if i = 0 then ldQ S X w q 0 else xcQ S X w q ((i - 1) / S 1) ((i - 1) % S 1)
theorem pk16_add {f : Nat → Nat} {a : Nat} : ∀ {d : Nat}, pk16 f (a + d) = pk16 f a * 16 ^ d + pk16 (fun i => f (a + i)) d
  | 0 => by rw [Nat.add_zero, Nat.pow_zero, Nat.mul_one, pk16, Nat.add_zero]
  | d + 1 => by
    rw [← Nat.add_assoc, pk16, pk16_add, pk16, Nat.pow_succ, Nat.add_mul, Nat.mul_assoc, Nat.add_assoc]
theorem rw_pk {S : Nat → Nat} {X : Nat → Nat → Nat → Nat} {w q : Nat → Nat} (h1 : 0 < S 1) : ∀ {r : Nat}, rwQ S X w q r = pk16 (rQ S X w q) (1 + S 1 * r)
  | 0 => by
    rw [rwQ, Nat.mul_zero, Nat.add_zero, pk16, pk16]
    unfold rQ
    rw [if_pos rfl]
    omega
  | r + 1 => by
    rw [rwQ, Nat.mul_add, Nat.mul_one, ← Nat.add_assoc, pk16_add, rw_pk h1]
    congr 1
    refine pk16_c fun i hi => ?_
    unfold rQ
    rw [if_neg (by omega), show 1 + S 1 * r + i - 1 = S 1 * r + i by omega, Nat.mul_add_div h1, Nat.div_eq_of_lt hi, Nat.add_zero, Nat.mul_add_mod, Nat.mod_eq_of_lt hi]
/-- two rows of digits -/
theorem pk16_lt2 {f g : Nat → Nat} {n j : Nat} (hj : j < n) (hf : ∀ i, i < n → f i < 16) (hg : ∀ i, i < n → g i < 16) (he : ∀ i, i < j → f i = g i) (hl : f j < g j) : pk16 f n < pk16 g n := by
  obtain ⟨d, rfl⟩ : ∃ d, n = (j + 1) + d := ⟨n - (j + 1), by omega⟩
  rw [pk16_add, pk16_add (f := g), pk16, pk16, pk16_c he]
  have h1 := pk16_lt (f := fun i => f (j + 1 + i)) (j := d) fun i hi => hf _ (by omega)
  have h2 : (pk16 g j * 16 + f j + 1) * 16 ^ d ≤ (pk16 g j * 16 + g j) * 16 ^ d := Nat.mul_le_mul_right _ (by omega)
  rw [Nat.add_mul, Nat.one_mul] at h2
  omega
theorem cardAt_sp {S : Nat → Nat} {X : Nat → Nat → Nat → Nat} {w q : Nat → Nat} {b M pc i nf : Nat} {cn : Bool} {m : rn_Mem} (hnf : 50 < nf) (wg : WG S) (hG : GB0 S X w b M cn pc m) (hT : TS S X w b 0 q m) (hi : i < S 1 * S 2) : mo_cardAt nf (nI i) m = some (nI (xcQ S X w q (i / S 1) (i % S 1)), m) := by
  have w1 : 2 ≤ S 1 := wg.1
  have w2 : S 1 ≤ 4 := wg.2.1
  have w4 : S 2 ≤ 4 := wg.2.2.2.1
  have w12 : S 1 * S 2 ≤ 12 := wg.2.2.2.2.1
  have z1 : m.1 116 1 = nI (S 1) := hG.1.1 1 (by omega) (by omega) (by omega) (by omega)
  have hk : i / S 1 < S 2 := by
    refine Classical.byContradiction fun n => ?_
    have h1 : S 1 * S 2 ≤ S 1 * (i / S 1) := Nat.mul_le_mul_left _ (by omega)
    have := Nat.div_add_mod i (S 1)
    omega
  have hj : i % S 1 < S 1 := Nat.mod_lt _ (by omega)
  obtain ⟨⟨t1, t2, t3⟩, _⟩ := hT.1 (i / S 1) (Nat.zero_le _) hk
  obtain ⟨o1, o2, o3, o4⟩ := hG.2.2.2.2.2.2 (i / S 1) hk
  have h24 := (noS_le w1 w2).2
  have hle : fb_ct (okR S X w b (i / S 1)) (q (i / S 1)) ≤ q (i / S 1) := fb_ct_le _ _
  have hfc := noS_fac (S := S) w1 w2
  have ho := od_in w1 w2 t1 hj
  rw [mo_cardAt, z1, if_pos (nI_ne0 (by omega) (by omega)), pk_div (by omega) (by omega) (by omega), Option.bind_some, if_pos ((in_n (by omega)).mpr (by omega)), nI_n (by omega), t3, k24, pk_mul, nI_add, if_pos ((in_n (by omega)).mpr (by omega)), if_pos (nI_ne0 (by omega) (by omega)), nI_n (by omega), o4 _ t1 t2, rem_n (by omega) (by omega) (by omega), ordered_sp (by omega) (by omega) w2 (by omega) hj, Option.bind_some]
  try simp only []
  rw [m4k, nI_add, if_pos ((in_n (by omega)).mpr (by omega)), nI_n (by omega), (o2 _ ho).1]
  rfl
/-- what a row of the memory says -/
def rowM (S : Nat → Nat) (f : Nat → Nat) (m : rn_Mem) : Prop := ∀ i, i < 1 + S 1 * S 2 → m.1 124 i = nI (f i) ∧ f i < 16
theorem kp_l99 {S : Nat → Nat} {X : Nat → Nat → Nat → Nat} {w q : Nat → Nat} {b M pc : Nat} {cn : Bool} {m : rn_Mem} {f : Nat → Nat} (wg : WG S) (hH : HZ S X) (hF : FT S w) (hG : GB0 S X w b M cn pc m) (hT : TS S X w b 0 q m) (hf : rowM S f m) (hr : ∀ i, i < 1 + S 1 * S 2 → rQ S X w q i < 16) : ∀ (d i nf : Nat) (a : Bool), i + d = S 1 * S 2 → d + 60 < nf → (∀ j, j < 1 + i → rQ S X w q j = f j) → ∃ a2 : Bool, mo_keepPlay_l99 nf (if a = true then 1 else 0) 1 (nI i) m = some (if a2 = true then 1 else 0, m) ∧ ((a2 = true ↔ pk16 (rQ S X w q) (1 + S 1 * S 2) < pk16 f (1 + S 1 * S 2)) ∨ (a2 = a ∧ pk16 (rQ S X w q) (1 + S 1 * S 2) = pk16 f (1 + S 1 * S 2))) := by
  have w12 : S 1 * S 2 ≤ 12 := wg.2.2.2.2.1
  have w2 : S 1 ≤ 4 := wg.2.1
  have w4 : S 2 ≤ 4 := wg.2.2.2.1
  have z1 : m.1 116 1 = nI (S 1) := hG.1.1 1 (by omega) (by omega) (by omega) (by omega)
  have z2 : m.1 116 2 = nI (S 2) := hG.1.1 2 (by omega) (by omega) (by omega) (by omega)
  have hsz : ∀ nf, mo_size nf m = some (nI (S 1 * S 2), m) := fun nf => by rw [mo_size, z1, z2, pk_mul]
  intro d
  induction d with
  | zero =>
    intro i nf a e hnf he
    obtain ⟨nf, rfl⟩ : ∃ e, nf = e + 1 := ⟨nf - 1, by omega⟩
    obtain rfl : i = S 1 * S 2 := by omega
    refine ⟨a, ?_, Or.inr ⟨rfl, pk16_c he⟩⟩
    rw [mo_keepPlay_l99, hsz, Option.bind_some]
    try simp only []
    rw [if_neg (by rw [nI_ltI (by omega) (by omega)]; omega)]
  | succ d ih =>
    intro i nf a e hnf he
    obtain ⟨nf, rfl⟩ : ∃ e, nf = e + 1 := ⟨nf - 1, by omega⟩
    have hi : i < S 1 * S 2 := by omega
    have hc := cardAt_sp (nf := nf) (by omega) wg hG hT hi
    have ec : xcQ S X w q (i / S 1) (i % S 1) = rQ S X w q (1 + i) := by
      unfold rQ
      rw [if_neg (by omega), show 1 + i - 1 = i by omega]
    rw [ec] at hc
    obtain ⟨hf1, hf2⟩ := hf (1 + i) (by omega)
    have hr1 := hr (1 + i) (by omega)
    have st : ∀ (A B : Bool), (A = true ↔ rQ S X w q (1 + i) < f (1 + i)) → (B = true ↔ rQ S X w q (1 + i) = f (1 + i)) → mo_keepPlay_l99 (nf + 1) (if a = true then 1 else 0) 1 (nI i) m = mo_keepPlay_l99 nf (if A = true then 1 else 0) (if B = true then 1 else 0) (nI (i + 1)) m := by
      intro A B hA hB
      rw [mo_keepPlay_l99, hsz, Option.bind_some]
      try simp only []
      rw [if_pos (by rw [nI_ltI (by omega) (by omega)]; omega), if_neg (by decide), hc, Option.bind_some]
      try simp only []
      rw [nI_1', if_pos ((in_n (by omega)).mpr (by omega)), nI_n (by omega), hf1, show (if nI (rQ S X w q (1 + i)) < nI (f (1 + i)) then some (1 : Int32) else some 0) = some (if A = true then 1 else 0) by
        by_cases y : rQ S X w q (1 + i) < f (1 + i)
        · rw [if_pos (by rw [nI_ltI (by omega) (by omega)]; exact y), if_pos (hA.mpr y)]
        · rw [if_neg (by rw [nI_ltI (by omega) (by omega)]; exact y), if_neg (fun t => y (hA.mp t))], Option.bind_some, hc, Option.bind_some]
      try simp only []
      rw [if_pos ((in_n (by omega)).mpr (by omega)), hf1, show (if nI (rQ S X w q (1 + i)) = nI (f (1 + i)) then some (1 : Int32) else some 0) = some (if B = true then 1 else 0) by
        by_cases y : rQ S X w q (1 + i) = f (1 + i)
        · rw [if_pos (by rw [y]), if_pos (hB.mpr y)]
        · rw [if_neg (by rw [nI_eq (by omega) (by omega)]; exact y), if_neg (fun t => y (hB.mp t))], Option.bind_some, nI_1, Option.bind_some]
    by_cases y : rQ S X w q (1 + i) = f (1 + i)
    · rw [st false true ⟨fun t => absurd t (by decide), fun t => by omega⟩ ⟨fun _ => y, fun _ => rfl⟩]
      obtain ⟨a2, g1, g2⟩ := ih (i + 1) nf false (by omega) (by omega) (fun j hj => by
        by_cases z : j = 1 + i
        · rw [z]; exact y
        · exact he j (by omega))
      refine ⟨a2, g1, ?_⟩
      rcases g2 with g2 | ⟨g2, g3⟩
      · exact Or.inl g2
      · refine Or.inl ?_
        rw [g2, g3]
        exact ⟨fun t => absurd t (by decide), fun t => absurd t (Nat.lt_irrefl _)⟩
    · have fin : ∀ A : Bool, mo_keepPlay_l99 nf (if A = true then 1 else 0) (if false = true then 1 else 0) (nI (i + 1)) m = some (if A = true then 1 else 0, m) := by
        intro A
        obtain ⟨nf, rfl⟩ : ∃ e, nf = e + 1 := ⟨nf - 1, by omega⟩
        rw [mo_keepPlay_l99, hsz, Option.bind_some]
        try simp only []
        by_cases z : i + 1 < S 1 * S 2
        · rw [if_pos (by rw [nI_ltI (by omega) (by omega)]; omega)]
          rfl
        · rw [if_neg (by rw [nI_ltI (by omega) (by omega)]; omega)]
      by_cases y2 : rQ S X w q (1 + i) < f (1 + i)
      · rw [st true false ⟨fun _ => y2, fun _ => rfl⟩ ⟨fun t => absurd t (by decide), fun t => absurd t y⟩, fin true]
        exact ⟨true, rfl, Or.inl ⟨fun _ => pk16_lt2 (show 1 + i < 1 + S 1 * S 2 by omega) hr (fun j hj => (hf j hj).2) he y2, fun _ => rfl⟩⟩
      · rw [st false false ⟨fun t => absurd t (by decide), fun t => absurd t y2⟩ ⟨fun t => absurd t (by decide), fun t => absurd t y⟩, fin false]
        have h3 := pk16_lt2 (f := f) (g := rQ S X w q) (show 1 + i < 1 + S 1 * S 2 by omega) (fun j hj => (hf j hj).2) hr (fun j hj => (he j hj).symm) (by omega)
        exact ⟨false, rfl, Or.inl ⟨fun t => absurd t (by decide), fun t => absurd t (by omega)⟩⟩
theorem kp_l179 {S : Nat → Nat} {X : Nat → Nat → Nat → Nat} {w q : Nat → Nat} {b M pc : Nat} {cn : Bool} (wg : WG S) : ∀ (d i nf : Nat) (m : rn_Mem), i + d = S 1 * S 2 → d + 60 < nf → GB0 S X w b M cn pc m → TS S X w b 0 q m → (∀ j, j < 1 + i → m.1 124 j = nI (rQ S X w q j)) → ∃ m2, mo_keepPlay_l179 nf (nI i) m = some m2 ∧ (∀ j, j < 1 + S 1 * S 2 → m2.1 124 j = nI (rQ S X w q j)) ∧ m2.2 = m.2 ∧ ∀ p, p ≠ 124 → m2.1 p = m.1 p := by
  have w12 : S 1 * S 2 ≤ 12 := wg.2.2.2.2.1
  have hsz : ∀ nf (m : rn_Mem), GB0 S X w b M cn pc m → mo_size nf m = some (nI (S 1 * S 2), m) := fun nf m hG => by rw [mo_size, hG.1.1 1 (by omega) (by omega) (by omega) (by omega), hG.1.1 2 (by omega) (by omega) (by omega) (by omega), pk_mul]
  intro d
  induction d with
  | zero =>
    intro i nf m e hnf hG hT h
    obtain ⟨nf, rfl⟩ : ∃ e, nf = e + 1 := ⟨nf - 1, by omega⟩
    obtain rfl : i = S 1 * S 2 := by omega
    refine ⟨m, ?_, h, rfl, fun _ _ => rfl⟩
    rw [mo_keepPlay_l179, hsz _ _ hG, Option.bind_some]
    try simp only []
    rw [if_neg (by rw [nI_ltI (by omega) (by omega)]; omega)]
  | succ d ih =>
    intro i nf m e hnf hG hT h
    obtain ⟨nf, rfl⟩ : ∃ e, nf = e + 1 := ⟨nf - 1, by omega⟩
    have hi : i < S 1 * S 2 := by omega
    have hc := cardAt_sp (nf := nf) (by omega) wg hG hT hi
    have ec : xcQ S X w q (i / S 1) (i % S 1) = rQ S X w q (1 + i) := by
      unfold rQ
      rw [if_neg (by omega), show 1 + i - 1 = i by omega]
    rw [ec] at hc
    generalize hm5 : rm_i m 124 (1 + i) (nI (rQ S X w q (1 + i))) = m5
    have f5 : ∀ p, p ≠ 124 → m5.1 p = m.1 p := fun p hp => by rw [← hm5]; funext x; rw [mi_get, if_neg (fun t => hp t.1)]
    obtain ⟨m2, p1, p2, p3, p4⟩ := ih (i + 1) nf m5 (by omega) (by omega) (GB0_k hG (fun p hp => f5 p (by omega)) (fun x _ => by rw [f5 115 (by omega)])) (TS_k hT (fun j _ _ => by rw [f5 133 (by omega)]) (fun p h1 h2 => f5 p (by omega))) (fun j hj => by
      rw [← hm5, mi_get]
      by_cases z : j = 1 + i
      · rw [if_pos ⟨rfl, z⟩, z]
      · rw [if_neg (fun t => z t.2)]; exact h j (by omega))
    refine ⟨m2, ?_, p2, by rw [p3, ← hm5, mi_2], fun p hp => by rw [p4 p hp, f5 p hp]⟩
    rw [mo_keepPlay_l179, hsz _ _ hG, Option.bind_some]
    try simp only []
    rw [if_pos (by rw [nI_ltI (by omega) (by omega)]; omega), hc, Option.bind_some]
    try simp only []
    rw [nI_1', if_pos ((in_n (by omega)).mpr (by omega)), nI_n (by omega), hm5, Option.bind_some, nI_1, Option.bind_some]
    exact p1
theorem kp_l218 {S hv pl : Nat → Nat} (wg : WG S) (hh : ∀ x, x < 16 → hv x < 16) (hp4 : ∀ x, x < 16 → (S 3).testBit x = true → pl x < 4) : ∀ (d x nf : Nat) (m : rn_Mem), x + d = 16 → d < nf → m.1 116 3 = nI (S 3) → (∀ y, y < 16 → (S 3).testBit y = true → m.1 136 y = nI (pl y)) → (∀ y, x ≤ y → y < 16 → m.1 120 y = nI (hv y)) → (∀ y, y < x → m.1 120 y = nI (hv y ||| (if (S 3).testBit y = true then 2 ^ pl y else 0))) → ∃ m2, mo_keepPlay_l218 nf (nI x) m = some m2 ∧ (∀ y, y < 16 → m2.1 120 y = nI (hv y ||| (if (S 3).testBit y = true then 2 ^ pl y else 0))) ∧ m2.2 = m.2 ∧ ∀ p, p ≠ 120 → m2.1 p = m.1 p := by
  have w3 : S 3 < 65536 := wg.2.2.2.2.2.1
  intro d
  induction d with
  | zero =>
    intro x nf m e hnf z3 h136 h1 h2
    obtain ⟨nf, rfl⟩ : ∃ e, nf = e + 1 := ⟨nf - 1, by omega⟩
    obtain rfl : x = 16 := by omega
    exact ⟨m, by rw [mo_keepPlay_l218, if_neg (by decide)], h2, rfl, fun _ _ => rfl⟩
  | succ d ih =>
    intro x nf m e hnf z3 h136 h1 h2
    obtain ⟨nf, rfl⟩ : ∃ e, nf = e + 1 := ⟨nf - 1, by omega⟩
    have hx : x < 16 := by omega
    have hpk := mo_isInPack_eq nf S x m (by omega) z3 w3
    have i16 : rn_in (nI x) 16 = true := (in_n (by omega)).mpr hx
    have x74 : (if (if (S 3).testBit x = true then (1 : Int32) else 0) = 0 then some 0 else if rn_in (nI x) 16 = true then some ((1 : Int32) <<< ((m.1 136 (nI x).toNatClampNeg) &&& 31)) else none) = some (nI (if (S 3).testBit x = true then 2 ^ pl x else 0)) := by
      by_cases y : (S 3).testBit x = true
      · have := hp4 x hx y
        rw [if_pos y, if_neg (by decide), if_pos i16, nI_n (by omega), h136 x hx y, shl_1 (by omega), if_pos y]
      · rw [if_neg y, if_pos rfl, if_neg y]; rfl
    generalize hm5 : rm_i m 120 x (nI (hv x ||| (if (S 3).testBit x = true then 2 ^ pl x else 0))) = m5
    have f5 : ∀ p, p ≠ 120 → m5.1 p = m.1 p := fun p hp => by rw [← hm5]; funext i; rw [mi_get, if_neg (fun t => hp t.1)]
    have g5 : ∀ y, m5.1 120 y = if y = x then nI (hv x ||| (if (S 3).testBit x = true then 2 ^ pl x else 0)) else m.1 120 y := fun y => by
      rw [← hm5, mi_get]
      by_cases z : y = x
      · rw [if_pos ⟨rfl, z⟩, if_pos z]
      · rw [if_neg (fun t => z t.2), if_neg z]
    obtain ⟨m2, p1, p2, p3, p4⟩ := ih (x + 1) nf m5 (by omega) (by omega) (by rw [f5 116 (by omega)]; exact z3) (by rw [f5 136 (by omega)]; exact h136) (fun y a1 a2 => by rw [g5, if_neg (by omega)]; exact h1 y (by omega) a2) (fun y a1 => by
      rw [g5]
      by_cases z : y = x
      · rw [if_pos z, z]
      · rw [if_neg z]; exact h2 y (by omega))
    refine ⟨m2, ?_, p2, by rw [p3, ← hm5, mi_2], fun p hp => by rw [p4 p hp, f5 p hp]⟩
    rw [mo_keepPlay_l218, show (16 : Int32) = nI 16 from rfl, if_pos (by rw [nI_ltI (by omega) (by omega)]; exact hx), if_pos i16, hpk, Option.bind_some]
    try simp only []
    rw [x74, Option.bind_some, if_pos i16, nI_n (by omega), h1 x (Nat.le_refl x) hx, fa_or, hm5, Option.bind_some, nI_1, Option.bind_some]
    exact p1
theorem kp_l261 {U : Nat} {uv cd at' : Nat → Nat} (hU : U ≤ 3) (hc : ∀ t, t < U → cd t < 16) (ha : ∀ t, t < U → at' t < 48) : ∀ (d t nf : Nat) (m : rn_Mem), t + d = U → d < nf → m.1 115 21 = nI U → (∀ s, s < U → m.1 125 s = nI (at' s) ∧ m.1 127 (at' s) = nI (cd s)) → (∀ s, t ≤ s → s < U → m.1 121 s = nI (uv s)) → (∀ s, s < t → m.1 121 s = nI (uv s ||| 2 ^ cd s)) → ∃ m2, mo_keepPlay_l261 nf (nI t) m = some m2 ∧ (∀ s, s < U → m2.1 121 s = nI (uv s ||| 2 ^ cd s)) ∧ m2.2 = m.2 ∧ ∀ p, p ≠ 121 → m2.1 p = m.1 p := by
  intro d
  induction d with
  | zero =>
    intro t nf m e hnf h21 h125 h1 h2
    obtain ⟨nf, rfl⟩ : ∃ e, nf = e + 1 := ⟨nf - 1, by omega⟩
    obtain rfl : t = U := by omega
    exact ⟨m, by rw [mo_keepPlay_l261, h21, if_neg (by rw [nI_ltI (by omega) (by omega)]; omega)], h2, rfl, fun _ _ => rfl⟩
  | succ d ih =>
    intro t nf m e hnf h21 h125 h1 h2
    obtain ⟨nf, rfl⟩ : ∃ e, nf = e + 1 := ⟨nf - 1, by omega⟩
    have ht : t < U := by omega
    have hct := hc t ht
    have hat := ha t ht
    obtain ⟨q1, q2⟩ := h125 t ht
    have i3 : rn_in (nI t) 3 = true := (in_n (by omega)).mpr (by omega)
    generalize hm5 : rm_i m 121 t (nI (uv t ||| 2 ^ cd t)) = m5
    have f5 : ∀ p, p ≠ 121 → m5.1 p = m.1 p := fun p hp => by rw [← hm5]; funext i; rw [mi_get, if_neg (fun t => hp t.1)]
    have g5 : ∀ y, m5.1 121 y = if y = t then nI (uv t ||| 2 ^ cd t) else m.1 121 y := fun y => by
      rw [← hm5, mi_get]
      by_cases z : y = t
      · rw [if_pos ⟨rfl, z⟩, if_pos z]
      · rw [if_neg (fun t => z t.2), if_neg z]
    obtain ⟨m2, p1, p2, p3, p4⟩ := ih (t + 1) nf m5 (by omega) (by omega) (by rw [f5 115 (by omega)]; exact h21) (by rw [f5 125 (by omega), f5 127 (by omega)]; exact h125) (fun y a1 a2 => by rw [g5, if_neg (by omega)]; exact h1 y (by omega) a2) (fun y a1 => by
      rw [g5]
      by_cases z : y = t
      · rw [if_pos z, z]
      · rw [if_neg z]; exact h2 y (by omega))
    refine ⟨m2, ?_, p2, by rw [p3, ← hm5, mi_2], fun p hp => by rw [p4 p hp, f5 p hp]⟩
    rw [mo_keepPlay_l261, h21, if_pos (by rw [nI_ltI (by omega) (by omega)]; exact ht)]
    simp only [if_pos i3, nI_n (show t < 2 ^ 31 by omega), q1]
    rw [if_pos ((in_n (by omega)).mpr hat), nI_n (show at' t < 2 ^ 31 by omega), q2, shl_1 (by omega), h1 t (Nat.le_refl t) ht, fa_or, hm5, Option.bind_some, nI_1, Option.bind_some]
    exact p1
theorem kp_l299 {S lv wv ld wn : Nat → Nat} (wg : WG S) (h4 : ∀ k, k < S 2 → ld k < 4 ∧ wn k < 4) : ∀ (d k nf : Nat) (m : rn_Mem), k + d = S 2 → d < nf → m.1 116 2 = nI (S 2) → (∀ j, j < S 2 → m.1 129 j = nI (ld j) ∧ m.1 128 j = nI (wn j)) → (∀ j, k ≤ j → j < S 2 → m.1 122 j = nI (lv j) ∧ m.1 123 j = nI (wv j)) → (∀ j, j < k → m.1 122 j = nI (lv j ||| 2 ^ ld j) ∧ m.1 123 j = nI (wv j ||| 2 ^ wn j)) → ∃ m2, mo_keepPlay_l299 nf (nI k) m = some m2 ∧ (∀ j, j < S 2 → m2.1 122 j = nI (lv j ||| 2 ^ ld j) ∧ m2.1 123 j = nI (wv j ||| 2 ^ wn j)) ∧ (∀ j, S 2 ≤ j → m2.1 122 j = m.1 122 j ∧ m2.1 123 j = m.1 123 j) ∧ m2.2 = m.2 ∧ ∀ p, p ≠ 122 → p ≠ 123 → m2.1 p = m.1 p := by
  have w4 : S 2 ≤ 4 := wg.2.2.2.1
  intro d
  induction d with
  | zero =>
    intro k nf m e hnf z2 h129 h1 h2
    obtain ⟨nf, rfl⟩ : ∃ e, nf = e + 1 := ⟨nf - 1, by omega⟩
    obtain rfl : k = S 2 := by omega
    exact ⟨m, by rw [mo_keepPlay_l299, z2, if_neg (by rw [nI_ltI (by omega) (by omega)]; omega)], h2, fun _ _ => ⟨rfl, rfl⟩, rfl, fun _ _ _ => rfl⟩
  | succ d ih =>
    intro k nf m e hnf z2 h129 h1 h2
    obtain ⟨nf, rfl⟩ : ∃ e, nf = e + 1 := ⟨nf - 1, by omega⟩
    have hk : k < S 2 := by omega
    obtain ⟨l1, l2⟩ := h4 k hk
    obtain ⟨q1, q2⟩ := h129 k hk
    obtain ⟨v1, v2⟩ := h1 k (Nat.le_refl k) hk
    have i4 : rn_in (nI k) 4 = true := (in_n (by omega)).mpr (by omega)
    generalize hm5 : rm_i (rm_i m 122 k (nI (lv k ||| 2 ^ ld k))) 123 k (nI (wv k ||| 2 ^ wn k)) = m5
    have f5 : ∀ p, p ≠ 122 → p ≠ 123 → m5.1 p = m.1 p := fun p hp hp2 => by rw [← hm5]; funext i; rw [mi_get, if_neg (fun t => hp2 t.1), mi_get, if_neg (fun t => hp t.1)]
    have g5 : ∀ y, m5.1 122 y = if y = k then nI (lv k ||| 2 ^ ld k) else m.1 122 y := fun y => by
      rw [← hm5, mi_get, if_neg (by omega), mi_get]
      by_cases z : y = k
      · rw [if_pos ⟨rfl, z⟩, if_pos z]
      · rw [if_neg (fun t => z t.2), if_neg z]
    have g6 : ∀ y, m5.1 123 y = if y = k then nI (wv k ||| 2 ^ wn k) else m.1 123 y := fun y => by
      rw [← hm5, mi_get]
      by_cases z : y = k
      · rw [if_pos ⟨rfl, z⟩, if_pos z]
      · rw [if_neg (fun t => z t.2), if_neg z, mi_get, if_neg (by omega)]
    obtain ⟨m2, p1, p2, p2b, p3, p4⟩ := ih (k + 1) nf m5 (by omega) (by omega) (by rw [f5 116 (by omega) (by omega)]; exact z2) (by rw [f5 129 (by omega) (by omega), f5 128 (by omega) (by omega)]; exact h129) (fun y a1 a2 => by rw [g5, g6, if_neg (by omega), if_neg (by omega)]; exact h1 y (by omega) a2) (fun y a1 => by
      rw [g5, g6]
      by_cases z : y = k
      · rw [if_pos z, if_pos z, z]; exact ⟨rfl, rfl⟩
      · rw [if_neg z, if_neg z]; exact h2 y (by omega))
    refine ⟨m2, ?_, p2, fun j hj => by rw [(p2b j hj).1, (p2b j hj).2, g5, g6, if_neg (by omega), if_neg (by omega)]; exact ⟨rfl, rfl⟩, by rw [p3, ← hm5, mi_2, mi_2], fun p hp hp2 => by rw [p4 p hp hp2, f5 p hp hp2]⟩
    rw [mo_keepPlay_l299, z2, if_pos (by rw [nI_ltI (by omega) (by omega)]; exact hk)]
    simp only [if_pos i4, nI_n (show k < 2 ^ 31 by omega), q1, v1]
    rw [shl_1 (by omega), fa_or, Option.bind_some, show (rm_i m 122 k (nI (lv k ||| 2 ^ ld k))).1 123 k = nI (wv k) by rw [mi_get, if_neg (by omega)]; exact v2, show (rm_i m 122 k (nI (lv k ||| 2 ^ ld k))).1 128 k = nI (wn k) by rw [mi_get, if_neg (by omega)]; exact q2, shl_1 (by omega), fa_or, hm5, Option.bind_some, nI_1, Option.bind_some]
    exact p1
