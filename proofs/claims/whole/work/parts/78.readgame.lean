/-! GAME: the text of a game read by both -/
/-- what a reader of the class may change; of the reference -/
def Kc (m m2 : rn_Mem) : Prop := Kq (fun p i => p = 36 ∨ (p = 1 ∧ i = 2)) m m2
def Km (m m2 : rn_Mem) : Prop := Kq (fun p i => p = 118 ∨ (p = 115 ∧ i = 3)) m m2
theorem Kq.tr {P : Nat → Nat → Prop} {m m1 m2 : rn_Mem} (h : Kq P m m1) (h2 : Kq P m1 m2) : Kq P m m2 := ⟨fun p i hp => (h2.1 p i hp).trans (h.1 p i hp), h2.2.trans h.2⟩
theorem Kq.sti {P : Nat → Nat → Prop} {m m1 : rn_Mem} {p i : Nat} {x : Int32} (h : Kq P m m1) (hp : P p i) : Kq P m (rm_i m1 p i x) := by
  refine ⟨fun q j hq => ?_, h.2⟩
  rw [mi_get, if_neg, h.1 q j hq]
  rintro ⟨rfl, rfl⟩
  exact hq hp
theorem Kq.mono {P Q : Nat → Nat → Prop} {m m1 : rn_Mem} (h : Kq P m m1) (hs : ∀ p i, P p i → Q p i) : Kq Q m m1 := ⟨fun p i hp => h.1 p i fun z => hp (hs p i z), h.2⟩
theorem Kc_a {m m1 : rn_Mem} (h : Kc m m1) (a : Nat) : Kc m (rm_i m1 1 2 (nI a)) := Kq.sti h (Or.inr ⟨rfl, rfl⟩)
theorem Kc_v {m m1 : rn_Mem} (h : Kc m m1) (j : Nat) (x : Int32) : Kc m (rm_i m1 36 j x) := Kq.sti h (Or.inl rfl)
theorem Km_a {m m1 : rn_Mem} (h : Km m m1) (a : Nat) : Km m (rm_i m1 115 3 (nI a)) := Kq.sti h (Or.inr ⟨rfl, rfl⟩)
theorem Km_v {m m1 : rn_Mem} (h : Km m m1) (j : Nat) (x : Int32) : Km m (rm_i m1 118 j x) := Kq.sti h (Or.inl rfl)
theorem TC_K {B : Nat → Nat} {K : Nat} {m m1 : rn_Mem} (h : TC B K m) (hk : Kc m m1) : TC B K m1 := by
  refine ⟨?_, fun i hi => ?_⟩
  · rw [hk.1 1 1 (by omega)]; exact h.1
  · rw [hk.1 2 i (by omega)]; exact h.2 i hi
theorem TM_K {B : Nat → Nat} {K : Nat} {m m1 : rn_Mem} (h : TM B K m) (hk : Km m m1) : TM B K m1 := by
  refine ⟨?_, fun i hi => ?_⟩
  · rw [hk.1 115 2 (by omega)]; exact h.1
  · rw [hk.1 117 i (by omega)]; exact h.2 i hi
theorem dI_n {d : Option Nat} (h : dI d < 0) (hv : ∀ v, d = some v → v < 100) : d = none := by
  cases d with
  | none => rfl
  | some v =>
    have := hv v rfl
    rw [show dI (some v) = nI v from rfl, k0, nI_ltI (by omega) (by omega)] at h
    omega
theorem dI_s {d : Option Nat} (h : ¬ dI d < 0) : ∃ v, d = some v := by
  cases d with
  | none => exact absurd (show dI none < 0 by decide) h
  | some v => exact ⟨v, rfl⟩
theorem dI_lt {d : Option Nat} {k : Nat} (hk : k < 100) (hv : ∀ v, d = some v → k ≤ v ∧ v < 100) : dI d < nI k ↔ d = none := by
  cases d with
  | none =>
    refine ⟨fun _ => rfl, fun _ => ?_⟩
    rw [show dI none = mI 1 from mi1, lt_mn (by omega) (by omega) (by omega)]
    trivial
  | some v =>
    have := hv v rfl
    rw [show dI (some v) = nI v from rfl, nI_ltI (by omega) (by omega)]
    exact ⟨fun h => by omega, fun h => (by cases h)⟩
theorem nbit {P x : Nat} (hx : x < 32) : ((nI P ^^^ (-1)) >>> (nI x &&& 31)) &&& 1 = nI (!P.testBit x).toNat := by
  apply nI_ext
  intro i hi
  rw [b_and, b_sshr x hx _ hi]
  by_cases q : i = 0
  · subst q
    rw [if_pos (by omega), b_xor, b_m1 _ (by omega), bt_n (by omega)]
    rw [Nat.add_zero]
    cases P.testBit x <;> rfl
  · have : bt (1 : Int32) i = false := by
      rw [show (1 : Int32) = nI 1 from rfl, bt_n hi]
      exact Nat.testBit_lt_two_pow (Nat.one_lt_two_pow q)
    rw [this, Bool.and_false]
    cases P.testBit x
    · exact (Nat.testBit_lt_two_pow (Nat.one_lt_two_pow q)).symm
    · exact (Nat.zero_testBit i).symm
/-- the pack: cards read one by one -/
theorem S_pack {B : Nat → Nat} {K c t : Nat} (hB : TB B K) (hct : c * t ≤ 12) : ∀ (r k P a : Nat), k + r = c * t → a ≤ K → P < 65536 → fb_ct (fun i => P.testBit i) 16 = k → ∃ (ok : Bool) (a' P' : Nat), a' ≤ K ∧ P' < 65536 ∧ (ok = true → fb_ct (fun i => P'.testBit i) 16 = c * t) ∧ (∀ n m, r + 100 < n → TC B K m → m.1 1 2 = nI a → m.1 36 1 = nI c → m.1 36 2 = nI t → m.1 36 3 = nI P → ∃ m2, tp_readPack_l7 36 n (nI k) m = some (if ok = true then .inr m2 else .inl (0, m2)) ∧ m2.1 1 2 = nI a' ∧ m2.1 36 3 = nI P' ∧ Kq (fun p i => (p = 36 ∧ i = 3) ∨ (p = 1 ∧ i = 2)) m m2) ∧ (∀ n m, r + 100 < n → TM B K m → m.1 115 3 = nI a → m.1 118 0 = nI c → m.1 118 1 = nI t → m.1 118 2 = nI P → ∃ m2, mo_readGame_l92 n (nI k) m = some (if ok = true then .inr m2 else .inl (0, m2)) ∧ m2.1 115 3 = nI a' ∧ m2.1 118 2 = nI P' ∧ Kq (fun p i => (p = 118 ∧ i = 2) ∨ (p = 115 ∧ i = 3)) m m2) := by
  intro r
  induction r with
  | zero =>
    intro k P a hk ha hP hc
    refine ⟨true, a, P, ha, hP, fun _ => by omega, fun n m hn hT h1 h2 h3 h4 => ?_, fun n m hn hT h1 h2 h3 h4 => ?_⟩
    · obtain ⟨n, rfl⟩ : ∃ e, n = e + 1 := ⟨n - 1, by omega⟩
      refine ⟨m, ?_, h1, h4, Kq.rf⟩
      unfold tp_readPack_l7 ga_cards
      simp only [Option.bind_some]
      rw [h2, h3, pk_mul, if_neg (by rw [nI_ltI (by omega) (by omega)]; omega)]
      rfl
    · obtain ⟨n, rfl⟩ : ∃ e, n = e + 1 := ⟨n - 1, by omega⟩
      refine ⟨m, ?_, h1, h4, Kq.rf⟩
      unfold mo_readGame_l92
      rw [h2, h3, pk_mul, if_neg (by rw [nI_ltI (by omega) (by omega)]; omega)]
      rfl
  | succ r ih =>
    intro k P a hk ha hP hc
    obtain ⟨d, a1, b1, b2, b3, b4⟩ := S_card hB ha (nI P) (nI P ^^^ (-1)) (by
      intro x hx
      rw [nbit (by omega), bit_0 (by omega) (by omega)]
      cases P.testBit x
      · exact ⟨fun _ => by decide, fun _ => rfl⟩
      · exact ⟨fun h => (by cases h), fun h => absurd rfl h⟩)
    cases d with
    | none =>
      refine ⟨false, a1, P, b1, hP, fun h => (by cases h), fun n m hn hT h1 h2 h3 h4 => ?_, fun n m hn hT h1 h2 h3 h4 => ?_⟩
      · obtain ⟨n, rfl⟩ : ∃ e, n = e + 1 := ⟨n - 1, by omega⟩
        refine ⟨rm_i m 1 2 (nI a1), ?_, g12, by rw [mi_get, if_neg (by omega)]; exact h4, Kq.rf.sti (Or.inr ⟨rfl, rfl⟩)⟩
        unfold tp_readPack_l7 ga_cards
        simp only [Option.bind_some]
        rw [h2, h3, h4, pk_mul, if_pos (by rw [nI_ltI (by omega) (by omega)]; omega), b3 n m (by omega) hT h1]
        simp only [Option.bind_some]
        rw [if_pos (show dI none < 0 by decide)]
        rfl
      · obtain ⟨n, rfl⟩ : ∃ e, n = e + 1 := ⟨n - 1, by omega⟩
        refine ⟨rm_i m 115 3 (nI a1), ?_, g115, by rw [mi_get, if_neg (by omega)]; exact h4, Kq.rf.sti (Or.inr ⟨rfl, rfl⟩)⟩
        unfold mo_readGame_l92
        rw [h2, h3, h4, pk_mul, if_pos (by rw [nI_ltI (by omega) (by omega)]; omega), b4 n m (by omega) hT h1]
        simp only [Option.bind_some]
        rw [if_pos (show dI none < 0 by decide)]
        rfl
    | some v =>
      obtain ⟨hv, hv2⟩ := b2 v rfl
      have hv3 : P.testBit v = false := by
        rw [nbit (by omega)] at hv2
        cases q : P.testBit v with
        | false => rfl
        | true => rw [q] at hv2; exact absurd rfl hv2
      have hd0 : ¬ dI (some v) < 0 := by rw [show dI (some v) = nI v from rfl, k0, nI_ltI (by omega) (by omega)]; omega
      have hP2 : P ||| 2 ^ v < 65536 := or_lt (k := 16) hP (pw_lt hv)
      have hor : ∀ x : Nat, nI P ||| ((1 : Int32) <<< (dI (some v) &&& 31)) = nI (P ||| 2 ^ v) := fun _ => by rw [show dI (some v) = nI v from rfl, shl_1 (by omega), fa_or]
      have hct2 : fb_ct (fun i => (P ||| 2 ^ v).testBit i) 16 = k + 1 := by
        have h := cnt_or (H := P) hv hv3
        unfold cnt at h
        rw [Nat.or_comm] at h
        rw [h, hc]
      obtain ⟨ok, a', P', c1, c2, c3, c4, c5⟩ := ih (k + 1) (P ||| 2 ^ v) a1 (by omega) b1 hP2 hct2
      refine ⟨ok, a', P', c1, c2, c3, fun n m hn hT h1 h2 h3 h4 => ?_, fun n m hn hT h1 h2 h3 h4 => ?_⟩
      · obtain ⟨n, rfl⟩ : ∃ e, n = e + 1 := ⟨n - 1, by omega⟩
        obtain ⟨m2, d1, d2, d3, d4⟩ := c4 n (rm_i (rm_i m 1 2 (nI a1)) 36 3 (nI (P ||| 2 ^ v))) (by omega) (TC_k (TC_k hT (by omega) (by omega)) (by omega) (by omega)) (by rw [g36, g12]) (by rw [mi_get, if_neg (by omega), mi_get, if_neg (by omega)]; exact h2) (by rw [mi_get, if_neg (by omega), mi_get, if_neg (by omega)]; exact h3) (by rw [mi_get, if_pos ⟨rfl, rfl⟩])
        refine ⟨m2, ?_, d2, d3, ((Kq.rf.sti (Or.inr ⟨rfl, rfl⟩)).sti (Or.inl ⟨rfl, rfl⟩)).tr d4⟩
        unfold tp_readPack_l7 ga_cards
        simp only [Option.bind_some]
        rw [h2, h3, h4, pk_mul, if_pos (by rw [nI_ltI (by omega) (by omega)]; omega), b3 n m (by omega) hT h1]
        simp only [Option.bind_some]
        rw [if_neg hd0, mi_get, if_neg (by omega), h4, hor 0, nI_1]
        exact d1
      · obtain ⟨n, rfl⟩ : ∃ e, n = e + 1 := ⟨n - 1, by omega⟩
        obtain ⟨m2, d1, d2, d3, d4⟩ := c5 n (rm_i (rm_i m 115 3 (nI a1)) 118 2 (nI (P ||| 2 ^ v))) (by omega) (TM_k (TM_k hT (by omega) (by omega)) (by omega) (by omega)) (by rw [g118, g115]) (by rw [mi_get, if_neg (by omega), mi_get, if_neg (by omega)]; exact h2) (by rw [mi_get, if_neg (by omega), mi_get, if_neg (by omega)]; exact h3) (by rw [mi_get, if_pos ⟨rfl, rfl⟩])
        refine ⟨m2, ?_, d2, d3, ((Kq.rf.sti (Or.inr ⟨rfl, rfl⟩)).sti (Or.inl ⟨rfl, rfl⟩)).tr d4⟩
        unfold mo_readGame_l92
        rw [h2, h3, h4, pk_mul, if_pos (by rw [nI_ltI (by omega) (by omega)]; omega), b4 n m (by omega) hT h1]
        simp only [Option.bind_some]
        rw [if_neg hd0, mi_get, if_neg (by omega), h4, hor 0, nI_1]
        exact d1
/-! the rest of the reference's reader, from a place on -/
def rg_5 (n : Nat) (m105 : rn_Mem) : Option (Int32 × rn_Mem) :=
  (mo_nextByte n m105).bind fun (r107, m106) =>
  if r107 < 0 then
    some (1, m106)
  else
    some (0, m106)
def rg_4 (n : Nat) (m73 : rn_Mem) : Option (Int32 × rn_Mem) :=
  (mo_takes n 98 m73).bind fun (r76, m75) =>
  if r76 = 0 then
    some (0, m75)
  else
    (some (rm_i m75 118 7 (-4))).bind fun (m79 : rn_Mem) =>
    (mo_takes n 63 m79).bind fun (r81, m80) =>
    if r81 = 0 then
      (mo_nextByte n m80).bind fun (r96, m95) =>
      (some (r96 - 48)).bind fun (x99 : Int32) =>
      (mo_in n (x99.toInt64) 0 (((m95.1 118 0) - 1).toInt64) m95).bind fun (r101, m100) =>
      if r101 = 0 then
        some (0, m100)
      else
        (some (rm_i m100 115 3 ((m100.1 115 3) + 1))).bind fun (m104 : rn_Mem) =>
        (some (rm_i m104 118 7 x99)).bind fun (m105 : rn_Mem) =>
        (mo_nextByte n m105).bind fun (r107, m106) =>
        if r107 < 0 then
          some (1, m106)
        else
          some (0, m106)
    else
      (mo_nextByte n m80).bind fun (r111, m110) =>
      if r111 < 0 then
        some (1, m110)
      else
        some (0, m110)
def rg_3 (n : Nat) (m58 : rn_Mem) : Option (Int32 × rn_Mem) :=
  (mo_readDigit n 102 0 2 m58).bind fun (r61, m60) =>
  (some (rm_i m60 118 4 r61)).bind fun (m63 : rn_Mem) =>
  if (m63.1 118 4) < 0 then
    some (0, m63)
  else
    (mo_readDigit n 108 0 1 m63).bind fun (r66, m65) =>
    (some (rm_i m65 118 5 r66)).bind fun (m68 : rn_Mem) =>
    if (m68.1 118 5) < 0 then
      some (0, m68)
    else
      (mo_readDigit n 107 0 1 m68).bind fun (r71, m70) =>
      (some (rm_i m70 118 6 r71)).bind fun (m73 : rn_Mem) =>
      if (m73.1 118 6) < 0 then
        some (0, m73)
      else
        (mo_takes n 98 m73).bind fun (r76, m75) =>
        if r76 = 0 then
          some (0, m75)
        else
          (some (rm_i m75 118 7 (-4))).bind fun (m79 : rn_Mem) =>
          (mo_takes n 63 m79).bind fun (r81, m80) =>
          if r81 = 0 then
            (mo_nextByte n m80).bind fun (r96, m95) =>
            (some (r96 - 48)).bind fun (x99 : Int32) =>
            (mo_in n (x99.toInt64) 0 (((m95.1 118 0) - 1).toInt64) m95).bind fun (r101, m100) =>
            if r101 = 0 then
              some (0, m100)
            else
              (some (rm_i m100 115 3 ((m100.1 115 3) + 1))).bind fun (m104 : rn_Mem) =>
              (some (rm_i m104 118 7 x99)).bind fun (m105 : rn_Mem) =>
              (mo_nextByte n m105).bind fun (r107, m106) =>
              if r107 < 0 then
                some (1, m106)
              else
                some (0, m106)
          else
            (mo_nextByte n m80).bind fun (r111, m110) =>
            if r111 < 0 then
              some (1, m110)
            else
              some (0, m110)
def rg_2 (n : Nat) (m33 : rn_Mem) : Option (Int32 × rn_Mem) :=
  (some (rm_i m33 118 3 (-4))).bind fun (m37 : rn_Mem) =>
  (mo_takes n 45 m37).bind fun (r39, m38) =>
  if r39 = 0 then
    (mo_takes n 43 m38).bind fun (r52, m51) =>
    if r52 = 0 then
      some (0, m51)
    else
      (mo_readSuit n m51).bind fun (r56, m55) =>
      (some (rm_i m55 118 3 r56)).bind fun (m58 : rn_Mem) =>
      if (m58.1 118 3) < 0 then
        some (0, m58)
      else
        (mo_readDigit n 102 0 2 m58).bind fun (r61, m60) =>
        (some (rm_i m60 118 4 r61)).bind fun (m63 : rn_Mem) =>
        if (m63.1 118 4) < 0 then
          some (0, m63)
        else
          (mo_readDigit n 108 0 1 m63).bind fun (r66, m65) =>
          (some (rm_i m65 118 5 r66)).bind fun (m68 : rn_Mem) =>
          if (m68.1 118 5) < 0 then
            some (0, m68)
          else
            (mo_readDigit n 107 0 1 m68).bind fun (r71, m70) =>
            (some (rm_i m70 118 6 r71)).bind fun (m73 : rn_Mem) =>
            if (m73.1 118 6) < 0 then
              some (0, m73)
            else
              (mo_takes n 98 m73).bind fun (r76, m75) =>
              if r76 = 0 then
                some (0, m75)
              else
                (some (rm_i m75 118 7 (-4))).bind fun (m79 : rn_Mem) =>
                (mo_takes n 63 m79).bind fun (r81, m80) =>
                if r81 = 0 then
                  (mo_nextByte n m80).bind fun (r96, m95) =>
                  (some (r96 - 48)).bind fun (x99 : Int32) =>
                  (mo_in n (x99.toInt64) 0 (((m95.1 118 0) - 1).toInt64) m95).bind fun (r101, m100) =>
                  if r101 = 0 then
                    some (0, m100)
                  else
                    (some (rm_i m100 115 3 ((m100.1 115 3) + 1))).bind fun (m104 : rn_Mem) =>
                    (some (rm_i m104 118 7 x99)).bind fun (m105 : rn_Mem) =>
                    (mo_nextByte n m105).bind fun (r107, m106) =>
                    if r107 < 0 then
                      some (1, m106)
                    else
                      some (0, m106)
                else
                  (mo_nextByte n m80).bind fun (r111, m110) =>
                  if r111 < 0 then
                    some (1, m110)
                  else
                    some (0, m110)
  else
    (mo_readDigit n 102 0 2 m38).bind fun (r115, m114) =>
    (some (rm_i m114 118 4 r115)).bind fun (m117 : rn_Mem) =>
    if (m117.1 118 4) < 0 then
      some (0, m117)
    else
      (mo_readDigit n 108 0 1 m117).bind fun (r120, m119) =>
      (some (rm_i m119 118 5 r120)).bind fun (m122 : rn_Mem) =>
      if (m122.1 118 5) < 0 then
        some (0, m122)
      else
        (mo_readDigit n 107 0 1 m122).bind fun (r125, m124) =>
        (some (rm_i m124 118 6 r125)).bind fun (m127 : rn_Mem) =>
        if (m127.1 118 6) < 0 then
          some (0, m127)
        else
          (mo_takes n 98 m127).bind fun (r130, m129) =>
          if r130 = 0 then
            some (0, m129)
          else
            (some (rm_i m129 118 7 (-4))).bind fun (m133 : rn_Mem) =>
            (mo_takes n 63 m133).bind fun (r135, m134) =>
            if r135 = 0 then
              (mo_nextByte n m134).bind fun (r150, m149) =>
              (some (r150 - 48)).bind fun (x153 : Int32) =>
              (mo_in n (x153.toInt64) 0 (((m149.1 118 0) - 1).toInt64) m149).bind fun (r155, m154) =>
              if r155 = 0 then
                some (0, m154)
              else
                (some (rm_i m154 115 3 ((m154.1 115 3) + 1))).bind fun (m158 : rn_Mem) =>
                (some (rm_i m158 118 7 x153)).bind fun (m159 : rn_Mem) =>
                (mo_nextByte n m159).bind fun (r161, m160) =>
                if r161 < 0 then
                  some (1, m160)
                else
                  some (0, m160)
            else
              (mo_nextByte n m134).bind fun (r165, m164) =>
              if r165 < 0 then
                some (1, m164)
              else
                some (0, m164)
def rg_1 (n : Nat) (m19 : rn_Mem) : Option (Int32 × rn_Mem) :=
  (some (rm_i m19 118 2 0)).bind fun (m23 : rn_Mem) =>
  (mo_readGame_l92 n 0 m23).bind fun q => match q with
  | .inl o => some o
  | .inr m33 =>
  (some (rm_i m33 118 3 (-4))).bind fun (m37 : rn_Mem) =>
  (mo_takes n 45 m37).bind fun (r39, m38) =>
  if r39 = 0 then
    (mo_takes n 43 m38).bind fun (r52, m51) =>
    if r52 = 0 then
      some (0, m51)
    else
      (mo_readSuit n m51).bind fun (r56, m55) =>
      (some (rm_i m55 118 3 r56)).bind fun (m58 : rn_Mem) =>
      if (m58.1 118 3) < 0 then
        some (0, m58)
      else
        (mo_readDigit n 102 0 2 m58).bind fun (r61, m60) =>
        (some (rm_i m60 118 4 r61)).bind fun (m63 : rn_Mem) =>
        if (m63.1 118 4) < 0 then
          some (0, m63)
        else
          (mo_readDigit n 108 0 1 m63).bind fun (r66, m65) =>
          (some (rm_i m65 118 5 r66)).bind fun (m68 : rn_Mem) =>
          if (m68.1 118 5) < 0 then
            some (0, m68)
          else
            (mo_readDigit n 107 0 1 m68).bind fun (r71, m70) =>
            (some (rm_i m70 118 6 r71)).bind fun (m73 : rn_Mem) =>
            if (m73.1 118 6) < 0 then
              some (0, m73)
            else
              (mo_takes n 98 m73).bind fun (r76, m75) =>
              if r76 = 0 then
                some (0, m75)
              else
                (some (rm_i m75 118 7 (-4))).bind fun (m79 : rn_Mem) =>
                (mo_takes n 63 m79).bind fun (r81, m80) =>
                if r81 = 0 then
                  (mo_nextByte n m80).bind fun (r96, m95) =>
                  (some (r96 - 48)).bind fun (x99 : Int32) =>
                  (mo_in n (x99.toInt64) 0 (((m95.1 118 0) - 1).toInt64) m95).bind fun (r101, m100) =>
                  if r101 = 0 then
                    some (0, m100)
                  else
                    (some (rm_i m100 115 3 ((m100.1 115 3) + 1))).bind fun (m104 : rn_Mem) =>
                    (some (rm_i m104 118 7 x99)).bind fun (m105 : rn_Mem) =>
                    (mo_nextByte n m105).bind fun (r107, m106) =>
                    if r107 < 0 then
                      some (1, m106)
                    else
                      some (0, m106)
                else
                  (mo_nextByte n m80).bind fun (r111, m110) =>
                  if r111 < 0 then
                    some (1, m110)
                  else
                    some (0, m110)
  else
    (mo_readDigit n 102 0 2 m38).bind fun (r115, m114) =>
    (some (rm_i m114 118 4 r115)).bind fun (m117 : rn_Mem) =>
    if (m117.1 118 4) < 0 then
      some (0, m117)
    else
      (mo_readDigit n 108 0 1 m117).bind fun (r120, m119) =>
      (some (rm_i m119 118 5 r120)).bind fun (m122 : rn_Mem) =>
      if (m122.1 118 5) < 0 then
        some (0, m122)
      else
        (mo_readDigit n 107 0 1 m122).bind fun (r125, m124) =>
        (some (rm_i m124 118 6 r125)).bind fun (m127 : rn_Mem) =>
        if (m127.1 118 6) < 0 then
          some (0, m127)
        else
          (mo_takes n 98 m127).bind fun (r130, m129) =>
          if r130 = 0 then
            some (0, m129)
          else
            (some (rm_i m129 118 7 (-4))).bind fun (m133 : rn_Mem) =>
            (mo_takes n 63 m133).bind fun (r135, m134) =>
            if r135 = 0 then
              (mo_nextByte n m134).bind fun (r150, m149) =>
              (some (r150 - 48)).bind fun (x153 : Int32) =>
              (mo_in n (x153.toInt64) 0 (((m149.1 118 0) - 1).toInt64) m149).bind fun (r155, m154) =>
              if r155 = 0 then
                some (0, m154)
              else
                (some (rm_i m154 115 3 ((m154.1 115 3) + 1))).bind fun (m158 : rn_Mem) =>
                (some (rm_i m158 118 7 x153)).bind fun (m159 : rn_Mem) =>
                (mo_nextByte n m159).bind fun (r161, m160) =>
                if r161 < 0 then
                  some (1, m160)
                else
                  some (0, m160)
            else
              (mo_nextByte n m134).bind fun (r165, m164) =>
              if r165 < 0 then
                some (1, m164)
              else
                some (0, m164)
