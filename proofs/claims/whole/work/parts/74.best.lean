theorem Zm_k {n t fo tr ls b : Nat} {m m2 : rn_Mem} (h : Zm n t fo tr ls b m) (e : m2.1 116 = m.1 116) : Zm n t fo tr ls b m2 := by
  unfold Zm at *
  rw [e]
  exact h
theorem bd_or {H x : Nat} (h : H.testBit x = true) : bd H (2 ^ x) ||| 2 ^ x = H := by
  apply Nat.eq_of_testBit_eq
  intro y
  rw [Nat.testBit_or, bd_bit, Nat.testBit_two_pow]
  by_cases q : x = y
  · subst q
    rw [h, decide_eq_true rfl]
    rfl
  · rw [decide_eq_false q]
    simp
theorem back_sp {n t fo tr ls b i nf x v : Nat} {f H : Nat → Nat} {M1 : Nat} {acc : Option Nat} {a1 : Int32} {m : rn_Mem} (hnf : 40 < nf) (hn : 2 ≤ n) (hn4 : n ≤ 4) (ht : t ≤ 4) (hs : n * t ≤ 12) (hb : b < n) (hls : ls < 2) (hi : i < n * t) (hx : x < 16) (hZ : Zm n t fo tr ls b m) (hl : ∀ j, j < i + 1 → m.1 142 j = nI (fu f i x j) ∧ fu f i x j < 16) (hh : ∀ c, c < n → m.1 143 c = nI (hu H (rpa n tr ls b f i) x c)) (hH : ∀ c, c < n → H c < 65536) (hbit : (H (rpa n tr ls b f i)).testBit x = true) (h4 : m.1 144 i = nI M1) (h5 : m.1 145 i = aI acc) (hacc : aB acc) (hv : v < 100) (hiv : iv n t tr ls b f H i) : ∃ m2, bkk a1 nf (nI i) (nI v) m = mo_bestFrom_l80 a1 nf (nI i) m2 ∧ HS n t fo tr ls b i f H M1 (opu (decide (rpa n tr ls b f i % 2 = 0)) acc v) m2 ∧ (∀ j, m2.1 144 j = m.1 144 j) ∧ (∀ j, j ≠ i → m2.1 145 j = m.1 145 j) ∧ Kr Pbf m m2 := by
  obtain ⟨z1, z2, z4, z5, z6, z88⟩ := hZ
  have hZ : Zm n t fo tr ls b m := ⟨z1, z2, z4, z5, z6, z88⟩
  have hp := rpa_lt (tr := tr) (ls := ls) (b := b) (k := i) (f := f) (show 0 < n by omega)
  have hk : i / n < t := by rw [Nat.div_lt_iff_lt_mul (by omega), Nat.mul_comm]; exact hi
  have hlf : ∀ j, j < i → m.1 142 j = nI (f j) ∧ f j < 16 := by
    intro j hj
    have := hl j (by omega)
    rw [fu_n (by omega)] at this
    exact this
  have hli : m.1 142 i = nI x := by
    have := (hl i (by omega)).1
    rw [fu_s] at this
    exact this
  obtain ⟨m1, a1', a2, a3, a4⟩ := findLeaders_sp (q := 142) (P := i) (n := n) (tr := tr) (ls := ls) (b := b) (nf := nf) (f := f) (m := m) (by omega) hn hn4 (by omega) (by omega) hls hb (by rw [al142]; omega) (by omega) (fun j hj => (hlf j hj).2) (fun j hj => (hlf j hj).1) z1 z4 z6
  have ko : ∀ q, ¬ Pfl q → m1.1 q = m.1 q := fun q hq => (a4 q hq).1
  have e116 := ko 116 (by unfold Pfl; omega)
  have e142 := ko 142 (by unfold Pfl; omega)
  have e143 := ko 143 (by unfold Pfl; omega)
  have e144 := ko 144 (by unfold Pfl; omega)
  have e145 := ko 145 (by unfold Pfl; omega)
  have hpl := playerAt_sp (nf := nf) (i := i) (m := m1) (tr := tr) (ls := ls) (f := f) hn hn4 hb (by omega) (by omega) (by rw [e116]; exact z1) (a2 _ (by omega))
  have hst : (m1.1 143 (rpa n tr ls b f i)) ||| ((1 : Int32) <<< ((m1.1 142 i) &&& 31)) = nI (H (rpa n tr ls b f i)) := by
    rw [e143, e142, hh _ hp, hli, shl_1 (by omega), fa_or]
    unfold hu
    rw [if_pos rfl, bd_or hbit]
  have htv := takeValue_sp (nf := nf) (i := i) (v := v) (m := rm_i m1 143 (rpa n tr ls b f i) (nI (H (rpa n tr ls b f i)))) (acc := acc) (tr := tr) (ls := ls) (f := f) hn hn4 hb (by omega) (by omega) (by rw [mi_get, if_neg (by omega), e116]; exact z1) (by rw [mi_get, if_neg (by omega)]; exact a2 _ (by omega)) (by rw [mi_get, if_neg (by omega), e145]; exact h5) hacc hv
  refine ⟨rm_i (rm_i m1 143 (rpa n tr ls b f i) (nI (H (rpa n tr ls b f i)))) 145 i (aI (opu (decide (rpa n tr ls b f i % 2 = 0)) acc v)), ?_, ?_, ?_, ?_, ?_⟩
  · unfold bkk
    rw [z88, a1']
    simp only [Option.bind_some]
    rw [hpl]
    simp only [Option.bind_some]
    rw [if_pos ((in_n (by omega)).mpr (by omega)), if_pos ((in_n (by omega)).mpr (by omega)), if_pos ((in_n (by omega)).mpr (by omega)), nI_n (by omega), nI_n (by omega), hst, htv]
    rfl
  · refine ⟨Zm_k hZ ?_, fun j hj => ?_, fun c hc => ?_, fun k hk' => ?_, ?_, ?_, hiv⟩
    · funext j
      rw [mi_get, if_neg (by omega), mi_get, if_neg (by omega), e116]
    · rw [mi_get, if_neg (by omega), mi_get, if_neg (by omega), e142]
      exact hlf j hj
    · rw [mi_get, if_neg (by omega), mi_get]
      by_cases z : c = rpa n tr ls b f i
      · rw [if_pos ⟨rfl, z⟩, z]
        exact ⟨rfl, hH _ hp⟩
      · rw [if_neg (fun y => z y.2), e143, hh c hc]
        unfold hu
        rw [if_neg z]
        exact ⟨rfl, hH c hc⟩
    · rw [mi_get, if_neg (by omega), mi_get, if_neg (by omega)]
      exact a2 k hk'
    · rw [mi_get, if_neg (by omega), mi_get, if_neg (by omega), e144]
      exact h4
    · rw [mi_get, if_pos ⟨rfl, rfl⟩]
  · intro j
    rw [mi_get, if_neg (by omega), mi_get, if_neg (by omega), e144]
  · intro j hj
    rw [mi_get, if_neg (fun z => hj z.2), mi_get, if_neg (by omega), e145]
  · refine ((a4.mono fun p hp => ?_).sti (p := 143) ?_).sti (p := 145) ?_
    · unfold Pfl at hp; unfold Pbf; omega
    · unfold Pbf; omega
    · unfold Pbf; omega
theorem comeTo_sp {n t fo tr ls b i nf : Nat} {f H : Nat → Nat} {m : rn_Mem} (hnf : 40 < nf) (hn : 2 ≤ n) (hn4 : n ≤ 4) (ht : t ≤ 4) (hs : n * t ≤ 12) (hb : b < n) (hls : ls < 2) (hfo : fo ≤ 2) (hi : i < n * t) (hZ : Zm n t fo tr ls b m) (hl : ∀ j, j < i → m.1 142 j = nI (f j) ∧ f j < 16) (hh : ∀ c, c < n → m.1 143 c = nI (H c) ∧ H c < 65536) (hiv : iv n t tr ls b f H i) : ∃ m2, mo_comeTo nf (nI i) m = some m2 ∧ HS n t fo tr ls b i f H (lwm fo tr (sl n f i) (H (rpa n tr ls b f i))) none m2 ∧ (∀ j, j ≠ i → m2.1 144 j = m.1 144 j ∧ m2.1 145 j = m.1 145 j) ∧ m2.1 142 = m.1 142 ∧ Kr Pbf m m2 := by
  obtain ⟨z1, z2, z4, z5, z6, z88⟩ := hZ
  have hZ : Zm n t fo tr ls b m := ⟨z1, z2, z4, z5, z6, z88⟩
  have hp := rpa_lt (tr := tr) (ls := ls) (b := b) (k := i) (f := f) (show 0 < n by omega)
  have hk : i / n < t := by rw [Nat.div_lt_iff_lt_mul (by omega), Nat.mul_comm]; exact hi
  have hmod := Nat.mod_lt i (show n > 0 by omega)
  have hdm := Nat.div_add_mod i n
  have hn0 : ¬ nI n = 0 := nI_ne0 (by omega) (by omega)
  obtain ⟨m1, a1', a2, a3, a4⟩ := findLeaders_sp (q := 142) (P := i) (n := n) (tr := tr) (ls := ls) (b := b) (nf := nf) (f := f) (m := m) (by omega) hn hn4 (by omega) (by omega) hls hb (by rw [al142]; omega) (by omega) (fun j hj => (hl j hj).2) (fun j hj => (hl j hj).1) z1 z4 z6
  have ko : ∀ q, ¬ Pfl q → m1.1 q = m.1 q := fun q hq => (a4 q hq).1
  have e116 := ko 116 (by unfold Pfl; omega)
  have e142 := ko 142 (by unfold Pfl; omega)
  have e143 := ko 143 (by unfold Pfl; omega)
  have e144 := ko 144 (by unfold Pfl; omega)
  have e145 := ko 145 (by unfold Pfl; omega)
  obtain ⟨y, hy, hyf⟩ : ∃ y, (if rn_rem (nI i) (nI n) = 0 then some (-4) else if ¬ nI n = 0 then if rn_in (nI i - rn_rem (nI i) (nI n)) 12 = true then some (m1.1 142 (nI i - rn_rem (nI i) (nI n)).toNatClampNeg) else none else none) = some y ∧ fc y (sl n f i) := by
    rw [rem_n (by omega) (by omega) (by omega)]
    unfold sl
    by_cases q : i % n = 0
    · exact ⟨-4, by rw [if_pos (by rw [q]; rfl)], by rw [if_pos q]; exact Or.inl ⟨mi4, rfl⟩⟩
    · refine ⟨nI (f (n * (i / n))), ?_, ?_⟩
      · rw [if_neg (nI_ne0 (by omega) (by omega)), if_pos hn0, pk_sub (by omega), if_pos ((in_n (by omega)).mpr (by omega)), nI_n (by omega), show i - i % n = n * (i / n) by omega, e142, (hl _ (by omega)).1]
      · rw [if_neg q]
        exact Or.inr ⟨_, rfl, (hl _ (by omega)).2, rfl⟩
  have hpl := playerAt_sp (nf := nf) (i := i) (m := m1) (tr := tr) (ls := ls) (f := f) hn hn4 hb (by omega) (by omega) (by rw [e116]; exact z1) (a2 _ (by omega))
  have hla := mo_lawful_sp (n := nf) (H := H (rpa n tr ls b f i)) (fo := fo) (m := m1) (hh _ hp).2 hfo hyf (by rw [e116]; exact z4) (by rw [e116]; exact z5)
  refine ⟨rm_i (rm_i m1 144 i (nI (lwm fo tr (sl n f i) (H (rpa n tr ls b f i))))) 145 i (-4), ?_, ?_, ?_, ?_, ?_⟩
  · unfold mo_comeTo
    rw [z88, a1']
    simp only [Option.bind_some]
    rw [e116, z1, if_pos hn0, hy]
    simp only [Option.bind_some]
    rw [hpl]
    simp only [Option.bind_some]
    rw [if_pos ((in_n (by omega)).mpr (by omega)), nI_n (by omega), e143, (hh _ hp).1, hla]
    simp only [Option.bind_some]
    rw [if_pos ((in_n (by omega)).mpr (by omega)), if_pos ((in_n (by omega)).mpr (by omega)), nI_n (by omega)]
  · refine ⟨Zm_k hZ ?_, fun j hj => ?_, fun c hc => ?_, fun k hk' => ?_, ?_, ?_, hiv⟩
    · funext j
      rw [mi_get, if_neg (by omega), mi_get, if_neg (by omega), e116]
    · rw [mi_get, if_neg (by omega), mi_get, if_neg (by omega), e142]
      exact hl j hj
    · rw [mi_get, if_neg (by omega), mi_get, if_neg (by omega), e143]
      exact hh c hc
    · rw [mi_get, if_neg (by omega), mi_get, if_neg (by omega)]
      exact a2 k hk'
    · rw [mi_get, if_neg (by omega), mi_get, if_pos ⟨rfl, rfl⟩]
    · rw [mi_get, if_pos ⟨rfl, rfl⟩]
      exact mi4
  · intro j hj
    refine ⟨?_, ?_⟩
    · rw [mi_get, if_neg (by omega), mi_get, if_neg (fun z => hj z.2), e144]
    · rw [mi_get, if_neg (fun z => hj z.2), mi_get, if_neg (by omega), e145]
  · funext j
    rw [mi_get, if_neg (by omega), mi_get, if_neg (by omega), e142]
  · refine ((a4.mono fun p hp => ?_).sti (p := 144) ?_).sti (p := 145) ?_
    · unfold Pfl at hp; unfold Pbf; omega
    · unfold Pbf; omega
    · unfold Pbf; omega
theorem l91_sp {i M x : Nat} {a1 : Int32} {m : rn_Mem} (hi : i ≤ 12) (hx : x < 16) (hM : M < 65536) (h : m.1 144 i = nI M) (hb : M.testBit x = true) (hlow : ∀ y, y < x → M.testBit y = false) : ∀ (r y nf : Nat), y + r = x → r < nf → mo_bestFrom_l91 a1 (nI i) nf (nI y) m = some (nI x, m) := by
  intro r
  induction r with
  | zero =>
    intro y nf e hnf
    obtain ⟨nf, rfl⟩ : ∃ e, nf = e + 1 := ⟨nf - 1, by omega⟩
    obtain rfl : y = x := by omega
    unfold mo_bestFrom_l91
    rw [if_pos ((in_n (by omega)).mpr (by omega)), nI_n (by omega), h]
    simp only [bit_0 (show M < 2 ^ 31 by omega) (show y < 32 by omega)]
    rw [if_neg (by rw [hb]; decide)]
  | succ r ih =>
    intro y nf e hnf
    obtain ⟨nf, rfl⟩ : ∃ e, nf = e + 1 := ⟨nf - 1, by omega⟩
    unfold mo_bestFrom_l91
    rw [if_pos ((in_n (by omega)).mpr (by omega)), nI_n (by omega), h]
    simp only [bit_0 (show M < 2 ^ 31 by omega) (show y < 32 by omega)]
    rw [if_pos (hlow y (by omega))]
    simp only [Option.bind_some, nI_1]
    exact ih (y + 1) nf (by omega) (by omega)
/-- a bound of the rounds -/
def BB (n t : Nat) : Nat → Nat → Nat
  | 0, _ => 0
  | r + 1, i => (t - i / n) * (BB n t r (i + 1) + 2)
theorem BB_le : ∀ n, n < 5 → ∀ t, t < 5 → n * t ≤ 12 → ∀ i, i ≤ 12 → 2 ≤ n → BB n t (n * t - i) i ≤ 400000 := by decide +kernel
/-- one card played: the head of the loop with a card -/
theorem l80_card {n t fo tr ls b i nf x : Nat} {f H : Nat → Nat} {M : Nat} {acc : Option Nat} {a1 : Int32} {m : rn_Mem} (hnf : 40 < nf) (hn : 2 ≤ n) (hn4 : n ≤ 4) (ht : t ≤ 4) (hs : n * t ≤ 12) (hb : b < n) (hi : i < n * t) (hS : HS n t fo tr ls b i f H M acc m) (hM : M < 65536) (hx : x < 16) (hbx : M.testBit x = true) (hlow : ∀ y, y < x → M.testBit y = false) (m88 : rn_Mem) (hm88 : m88 = rm_i (rm_i (rm_i m 144 i (nI (bd M (2 ^ x)))) 142 i (nI x)) 143 (rpa n tr ls b f i) (nI (bd (H (rpa n tr ls b f i)) (2 ^ x)))) : mo_bestFrom_l80 a1 (nf + 1) (nI i) m = if nI (i + 1) < nI (n * t) then (mo_comeTo nf (nI (i + 1)) m88).bind fun m95 => mo_bestFrom_l80 a1 nf (nI (i + 1)) m95 else (mo_findLeaders nf 142 (nI b) (nI (i + 1)) m88).bind fun m97 => if ¬ (m97.1 116 1) = 0 then (mo_sideWins nf (a1 / (m97.1 116 1)) m97).bind fun (r101, m100) => if nI (i + 1) = a1 then (if rn_in a1 13 = true then some ((rm_i m100 145 (i + 1) r101).1 145 a1.toNatClampNeg, rm_i m100 145 (i + 1) r101) else none) else bkk a1 nf (nI i) r101 (rm_i m100 145 (i + 1) r101) else none := by
  obtain ⟨⟨z1, z2, z4, z5, z6, z88⟩, hl, hh, hL, h4, h5, hiv⟩ := hS
  have hp := rpa_lt (tr := tr) (ls := ls) (b := b) (k := i) (f := f) (show 0 < n by omega)
  have hk : i / n < t := by rw [Nat.div_lt_iff_lt_mul (by omega), Nat.mul_comm]; exact hi
  have hM0 : ¬ nI M = 0 := by
    rw [k0, nI_eq (by omega) (by omega)]
    rintro rfl
    rw [Nat.zero_testBit] at hbx
    cases hbx
  have h13 : rn_in (nI i) 13 = true := (in_n (by omega)).mpr (by omega)
  have l91 := l91_sp (a1 := a1) (m := m) (show i ≤ 12 by omega) hx hM h4 hbx hlow x 0 nf (by omega) (by omega)
  have hpl : ∀ m', m'.1 116 = m.1 116 → m'.1 139 = m.1 139 → mo_playerAt nf (nI i) m' = some (nI (rpa n tr ls b f i), m') := by
    intro m' q1 q2
    exact playerAt_sp (nf := nf) (i := i) (m := m') (tr := tr) (ls := ls) (f := f) hn hn4 hb (by omega) (by omega) (by rw [q1]; exact z1) (by rw [q2]; exact hL _ (by omega))
  rw [mo_bestFrom_l80, if_pos h13, nI_n (by omega), h4, if_neg hM0, k0, l91]
  simp only [Option.bind_some, if_pos h13]
  rw [h4, shl_1 (by omega), bd_n, if_pos ((in_n (by omega)).mpr (by omega)), hpl _ (by
    funext j
    rw [mi_get, if_neg (by omega), mi_get, if_neg (by omega)]) (by
    funext j
    rw [mi_get, if_neg (by omega), mi_get, if_neg (by omega)])]
  have hin4 : rn_in (nI (rpa n tr ls b f i)) 4 = true := (in_n (by omega)).mpr (by omega)
  have e143 : (rm_i (rm_i m 144 i (nI (bd M (2 ^ x)))) 142 i (nI x)).1 143 (rpa n tr ls b f i) = nI (H (rpa n tr ls b f i)) := by
    rw [mi_get, if_neg (by omega), mi_get, if_neg (by omega)]
    exact (hh _ hp).1
  simp only [Option.bind_some, if_pos hin4]
  rw [nI_n (by omega), e143, bd_n, ← hm88, nI_1]
  unfold mo_size
  simp only [Option.bind_some]
  have y1 : m88.1 116 = m.1 116 := by
    rw [hm88]
    funext j
    rw [mi_get, if_neg (by omega), mi_get, if_neg (by omega), mi_get, if_neg (by omega)]
  have hin1 : rn_in (nI (i + 1)) 13 = true := (in_n (by omega)).mpr (by omega)
  rw [y1, z1, z2, z88, pk_mul]
  simp only [if_pos hin1, nI_n (show i + 1 < 2 ^ 31 by omega), mi_get, true_and, if_true, pk_m1]
  rfl
