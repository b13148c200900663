/-! A TRICK: who wins it; wins -/
theorem shl_6 {a : Nat} (h : a < 2 ^ 20) : nI a <<< ((6 : Int32) &&& 31) = nI (a * 64) := shl_n (k := 6) (by omega) (by omega)
theorem shl_2 {a : Nat} (h : a < 2 ^ 20) : nI a <<< ((2 : Int32) &&& 31) = nI (a * 4) := shl_n (k := 2) (by omega) (by omega)
theorem jn_code {c x s : Nat} (hc : c < 4) (hx : x < 16) (hs : s < 4) : ((nI c <<< ((6 : Int32) &&& 31)) ||| (nI x <<< ((2 : Int32) &&& 31))) ||| nI s = nI (64 * c + 4 * x + s) := by
  rw [shl_6 (by omega), shl_2 (by omega), show c * 64 = 2 ^ 6 * c by omega, fa_or_sum c (show x * 4 < 2 ^ 6 by omega), show 2 ^ 6 * c + x * 4 = 2 ^ 2 * (16 * c + x) by omega, fa_or_sum (16 * c + x) (show s < 2 ^ 2 by omega)]
  congr 1
  omega
theorem ga_join_0 {n g c x : Nat} {m : rn_Mem} (hc : c < 4) (hx : x < 16) : ga_join n g (mI 1) (nI c) (nI x) m = some (nI (64 * c + 4 * x + x / 4), m) := by
  unfold ga_join
  rw [if_pos (by decide), shr_2 (by omega), jn_code hc hx (by omega)]
theorem ga_join_1 {n g c x c0 y s tr : Nat} {m : rn_Mem} (hc : c < 4) (hx : x < 16) (hc0 : c0 < 4) (hy : y < 16) (hs : s < 4) (hg : m.1 g 4 = cT tr) : ga_join n g (nI (64 * c0 + 4 * y + s)) (nI c) (nI x) m = some (nI (if bts tr x y = true then 64 * c + 4 * x + s else 64 * c0 + 4 * y + s), m) := by
  unfold ga_join
  have e1 : (nI (64 * c0 + 4 * y + s) >>> ((2 : Int32) &&& 31)) &&& 15 = nI y := by
    rw [shr_2 (by omega), and_15 (by omega)]
    congr 1
    omega
  have e2 : nI (64 * c0 + 4 * y + s) &&& 3 = nI s := by
    rw [and_3 (by omega)]
    congr 1
    omega
  rw [if_neg (by rw [k0, nI_ltI (by omega) (by omega)]; omega), e1]
  simp only [Option.bind_some]
  rw [shr_2 (by omega), shr_2 (by omega), hg]
  rw [e2, jn_code hc hx hs]
  unfold bts
  by_cases g1 : x / 4 = y / 4
  · rw [if_pos (by rw [g1]), if_pos g1]
    by_cases g2 : y < x
    · rw [if_pos ((nI_ltI (by omega) (by omega)).mpr g2), if_pos (by exact decide_eq_true g2)]
      rfl
    · rw [if_neg (mt (nI_ltI (by omega) (by omega)).mp g2), if_neg (by simp only [decide_eq_true_eq]; exact g2)]
      rfl
  · rw [if_neg (mt (nI_eq (by omega) (by omega)).mp g1), if_neg g1]
    by_cases g2 : x / 4 = tr
    · rw [if_pos ((eq_nc (by omega)).mpr g2), if_pos (by exact decide_eq_true g2)]
      rfl
    · rw [if_neg (mt (eq_nc (by omega)).mp g2), if_neg (by simp only [decide_eq_true_eq]; exact g2)]
      rfl
theorem md_s {x n : Nat} (h : 0 < n) : (x + 1) % n = if x % n + 1 < n then x % n + 1 else 0 := by
  rw [← Nat.mod_add_mod]
  have := Nat.mod_lt x h
  split
  · rw [Nat.mod_eq_of_lt (by assumption)]
  · rw [show x % n + 1 = n by omega, Nat.mod_self]
theorem ga_next_sp {n g x k : Nat} {m : rn_Mem} (hk : 0 < k) (hk4 : k ≤ 4) (hg : m.1 g 1 = nI k) : ga_next n g (nI (x % k)) m = some (nI ((x + 1) % k), m) := by
  unfold ga_next
  have := Nat.mod_lt x hk
  rw [hg, nI_1, md_s hk]
  by_cases h : x % k + 1 < k
  · rw [if_pos ((nI_ltI (by omega) (by omega)).mpr h), if_pos h]
  · rw [if_neg (mt (nI_ltI (by omega) (by omega)).mp h), if_neg h]
    rfl
theorem wp_le (tr : Nat) (f : Nat → Nat) : ∀ k, wp tr f k ≤ k
  | 0 => Nat.le_refl 0
  | k + 1 => by
    have := wp_le tr f k
    unfold wp
    split <;> omega
theorem wp_c {tr : Nat} {f g : Nat → Nat} : ∀ {k : Nat}, (∀ i, i ≤ k → f i = g i) → wp tr f k = wp tr g k
  | 0, _ => rfl
  | k + 1, h => by
    have e := wp_c (tr := tr) (f := f) (g := g) (k := k) fun i hi => h i (by omega)
    have := wp_le tr g k
    unfold wp
    rw [e, h (k + 1) (by omega), h (wp tr g k) (by omega)]
/-- the class's code of a trick so far -/
def jc (n tr L : Nat) (f : Nat → Nat) (j : Nat) : Nat := 64 * ((L + wp tr f j) % n) + 4 * f (wp tr f j) + f 0 / 4
/-- before the first card there is none -/
def jo (n tr L : Nat) (f : Nat → Nat) : Nat → Int32
  | 0 => mI 1
  | j + 1 => nI (jc n tr L f j)
theorem jc_lt {n tr L j : Nat} {f : Nat → Nat} (hn : 0 < n) (hn4 : n ≤ 4) (hf : ∀ i, i ≤ j → f i < 16) : jc n tr L f j < 256 := by
  unfold jc
  have h1 := Nat.mod_lt (L + wp tr f j) hn
  have h2 := hf _ (wp_le tr f j)
  have h3 := hf 0 (by omega)
  omega
theorem ga_join_sp {n g j k tr L : Nat} {f : Nat → Nat} {m : rn_Mem} (hk : 0 < k) (hk4 : k ≤ 4) (hf : ∀ i, i ≤ j → f i < 16) (hg : m.1 g 4 = cT tr) : ga_join n g (jo k tr L f j) (nI ((L + j) % k)) (nI (f j)) m = some (jo k tr L f (j + 1), m) := by
  have h1 := Nat.mod_lt (L + j) hk
  cases j with
  | zero =>
    show ga_join n g (mI 1) (nI ((L + 0) % k)) (nI (f 0)) m = some (nI (jc k tr L f 0), m)
    rw [ga_join_0 (by omega) (hf 0 (by omega))]
    rfl
  | succ j =>
    show ga_join n g (nI (jc k tr L f j)) (nI ((L + (j + 1)) % k)) (nI (f (j + 1))) m = some (nI (jc k tr L f (j + 1)), m)
    have h2 := Nat.mod_lt (L + wp tr f j) hk
    have h3 := hf _ (Nat.le_trans (wp_le tr f j) (by omega))
    have h4 := hf 0 (by omega)
    unfold jc
    rw [ga_join_1 (tr := tr) (by omega) (hf (j + 1) (by omega)) (by omega) h3 (by omega) hg]
    by_cases g1 : bts tr (f (j + 1)) (f (wp tr f j)) = true
    · rw [if_pos g1, show wp tr f (j + 1) = j + 1 by unfold wp; rw [if_pos g1]]
    · rw [if_neg g1, show wp tr f (j + 1) = wp tr f j by rw [wp, if_neg g1]]
theorem jc_win {n k tr L j : Nat} {f : Nat → Nat} {m : rn_Mem} (hk : 0 < k) (hk4 : k ≤ 4) (hf : ∀ i, i ≤ j → f i < 16) : ga_winnerOf n (nI (jc k tr L f j)) m = some (nI ((L + wp tr f j) % k), m) := by
  unfold ga_winnerOf
  have h1 := Nat.mod_lt (L + wp tr f j) hk
  have h2 := hf _ (wp_le tr f j)
  have h3 := hf 0 (by omega)
  have h4 := jc_lt (tr := tr) (L := L) hk hk4 hf
  rw [shr_6 (by omega), and_3 (by omega)]
  congr 2
  congr 1
  unfold jc
  omega
theorem winning_l6_sp {q fr mn tr : Nat} {f : Nat → Nat} {m : rn_Mem} (hal : fr + mn ≤ rn_al q) (hb : fr + mn < 1000) (hm : ∀ j, j < mn → m.1 q (fr + j) = nI (f j)) (hf : ∀ j, j < mn → f j < 16) : ∀ (r j n : Nat), j + 1 + r = mn → r < n → mo_winning_l6 q (nI fr) (nI mn) (zT tr) n (nI (wp tr f j)) (nI (j + 1)) m = some (nI (wp tr f (mn - 1)), m) := by
  intro r
  induction r with
  | zero =>
    intro j n h1 hn
    obtain ⟨n, rfl⟩ : ∃ e, n = e + 1 := ⟨n - 1, by omega⟩
    unfold mo_winning_l6
    rw [if_neg (by rw [nI_ltI (by omega) (by omega)]; omega), show mn - 1 = j by omega]
  | succ r ih =>
    intro j n h1 hn
    obtain ⟨n, rfl⟩ : ∃ e, n = e + 1 := ⟨n - 1, by omega⟩
    have hw := wp_le tr f j
    have h2 := hf (j + 1) (by omega)
    have h3 := hf (wp tr f j) (by omega)
    unfold mo_winning_l6
    rw [if_pos (by rw [nI_ltI (by omega) (by omega)]; omega)]
    simp (disch := omega) only [nI_add, in_n, nI_n]
    rw [if_pos (by omega)]
    simp only [Option.bind_some]
    rw [if_pos (by omega), hm (j + 1) (by omega), hm (wp tr f j) (by omega)]
    unfold mo_suitOf
    simp only [Option.bind_some]
    rw [k4, pk_div (by omega) (by omega) (by omega), pk_div (by omega) (by omega) (by omega)]
    have fin := ih (j + 1) n (by omega) (by omega)
    by_cases g1 : f (j + 1) / 4 = f (wp tr f j) / 4
    · rw [if_pos (by rw [g1])]
      by_cases g2 : f (wp tr f j) < f (j + 1)
      · rw [if_pos ((nI_ltI (by omega) (by omega)).mpr g2)]
        rw [show wp tr f (j + 1) = j + 1 by rw [wp, if_pos (by unfold bts; rw [if_pos g1]; exact decide_eq_true g2)]] at fin
        simp only [Option.bind_some, if_true, nI_1, if_neg (show ¬ (1 : Int32) = 0 by decide)]
        exact fin
      · rw [if_neg (mt (nI_ltI (by omega) (by omega)).mp g2)]
        rw [show wp tr f (j + 1) = wp tr f j by rw [wp, if_neg (by unfold bts; rw [if_pos g1]; simp only [decide_eq_true_eq]; exact g2)]] at fin
        simp only [Option.bind_some, if_true, nI_1, if_neg (show ¬ (1 : Int32) = 0 by decide)]
        exact fin
    · rw [if_neg (mt (nI_eq (by omega) (by omega)).mp g1)]
      by_cases g2 : f (j + 1) / 4 = tr
      · rw [if_pos ((eq_nT (by omega)).mpr g2)]
        rw [show wp tr f (j + 1) = j + 1 by rw [wp, if_pos (by unfold bts; rw [if_neg g1]; exact decide_eq_true g2)]] at fin
        simp only [Option.bind_some, if_true, nI_1, if_neg (show ¬ (1 : Int32) = 0 by decide)]
        exact fin
      · rw [if_neg (mt (eq_nT (by omega)).mp g2)]
        rw [show wp tr f (j + 1) = wp tr f j by rw [wp, if_neg (by unfold bts; rw [if_neg g1]; simp only [decide_eq_true_eq]; exact g2)]] at fin
        simp only [Option.bind_some, if_true, nI_1, if_neg (show ¬ (1 : Int32) = 0 by decide)]
        exact fin
theorem winning_sp {q fr mn tr n : Nat} {f : Nat → Nat} {m : rn_Mem} (hal : fr + mn ≤ rn_al q) (hb : fr + mn < 1000) (h1 : 1 ≤ mn) (hn : mn < n) (hm : ∀ j, j < mn → m.1 q (fr + j) = nI (f j)) (hf : ∀ j, j < mn → f j < 16) : mo_winning n q (nI fr) (nI mn) (zT tr) m = some (nI (wp tr f (mn - 1)), m) := by
  unfold mo_winning
  have h := winning_l6_sp (tr := tr) hal hb hm hf (mn - 1) 0 n (by omega) (by omega)
  rw [show nI (wp tr f 0) = 0 from rfl, show nI (0 + 1) = 1 from rfl] at h
  rw [h]
  rfl
theorem al119 : rn_al 119 = 4 := rfl
theorem al141 : rn_al 141 = 12 := rfl
theorem al142 : rn_al 142 = 12 := rfl
theorem al138 : rn_al 138 = 13 := rfl
/-- the cards so far as bits -/
def msk (f : Nat → Nat) : Nat → Nat
  | 0 => 0
  | j + 1 => msk f j ||| 2 ^ f j
theorem msk_lt {f : Nat → Nat} : ∀ {j : Nat}, (∀ i, i < j → f i < 16) → msk f j < 2 ^ 16
  | 0, _ => by show 0 < 2 ^ 16; decide
  | j + 1, h => or_lt (msk_lt fun i hi => h i (by omega)) (pw_lt (h j (by omega)))
theorem msk_bit {f : Nat → Nat} {x : Nat} : ∀ {j : Nat}, (msk f j).testBit x = true ↔ ∃ i, i < j ∧ f i = x
  | 0 => by
    constructor
    · intro h
      rw [msk, Nat.zero_testBit] at h
      cases h
    · rintro ⟨i, h, _⟩
      omega
  | j + 1 => by
    rw [msk, bit_set, Bool.or_eq_true, msk_bit (j := j), decide_eq_true_eq]
    constructor
    · rintro (⟨i, h1, h2⟩ | h)
      · exact ⟨i, by omega, h2⟩
      · exact ⟨j, by omega, h.symm⟩
    · rintro ⟨i, h1, h2⟩
      by_cases q : i = j
      · exact Or.inr (by rw [← h2, q])
      · exact Or.inl ⟨i, by omega, h2⟩
/-- a card of the pack that was not there -/
def nw (P : Nat) (f : Nat → Nat) (j : Nat) : Prop := P.testBit (f j) = true ∧ (msk f j).testBit (f j) = false
def cdf (C : Nat) (j : Nat) : Nat := C / 2 ^ (4 * j) % 16
theorem cdf_lt (C j : Nat) : cdf C j < 16 := Nat.mod_lt _ (by decide)
theorem cdf_n {C j : Nat} (hC : C < 65536) (hj : j < 4) : (nI C >>> (((4 : Int32) * nI j) &&& 31)) &&& 15 = nI (cdf C j) := by
  have := Nat.div_le_self C (2 ^ (4 * j))
  rw [k4, pk_mul, shr_n (by omega) (by omega), and_15 (by omega)]
  rfl
theorem lt_wins_l62_sp {C L k tr P : Nat} {m : rn_Mem} (hC : C < 65536) (hk : 0 < k) (hk4 : k ≤ 4) (h1 : m.1 4 1 = nI k) (h3 : m.1 4 3 = nI P) (hP : P < 65536) (h4 : m.1 4 4 = cT tr) : ∀ (r j n : Nat), j + r = k → r < n → ((∀ i, j ≤ i → i < k → nw P (cdf C) i) → lt_wins_l62 (nI C) n (nI (msk (cdf C) j)) (nI ((L + j) % k)) (jo k tr L (cdf C) j) (nI j) m = some (.inr (jo k tr L (cdf C) k, m))) ∧ ((∃ i, j ≤ i ∧ i < k ∧ ¬ nw P (cdf C) i) → lt_wins_l62 (nI C) n (nI (msk (cdf C) j)) (nI ((L + j) % k)) (jo k tr L (cdf C) j) (nI j) m = some (.inl (-1, m))) := by
  intro r
  induction r with
  | zero =>
    intro j n e hn
    obtain ⟨n, rfl⟩ : ∃ e, n = e + 1 := ⟨n - 1, by omega⟩
    obtain rfl : j = k := by omega
    refine ⟨fun _ => ?_, fun ⟨i, q1, q2, _⟩ => by omega⟩
    unfold lt_wins_l62
    rw [h1, if_neg (by rw [nI_ltI (by omega) (by omega)]; omega)]
  | succ r ih =>
    intro j n e hn
    obtain ⟨n, rfl⟩ : ∃ e, n = e + 1 := ⟨n - 1, by omega⟩
    have hx := cdf_lt C j
    have hM := msk_lt (f := cdf C) (j := j) fun i _ => cdf_lt C i
    have hb : ((nI (msk (cdf C) j) >>> (nI (cdf C j) &&& 31)) &&& 1 = 0) = ((msk (cdf C) j).testBit (cdf C j) = false) := propext (bit_0 (by omega) (by omega))
    have st : lt_wins_l62 (nI C) (n + 1) (nI (msk (cdf C) j)) (nI ((L + j) % k)) (jo k tr L (cdf C) j) (nI j) m = if P.testBit (cdf C j) = true then if (msk (cdf C) j).testBit (cdf C j) = false then lt_wins_l62 (nI C) n (nI (msk (cdf C) (j + 1))) (nI ((L + (j + 1)) % k)) (jo k tr L (cdf C) (j + 1)) (nI (j + 1)) m else some (.inl (-1, m)) else some (.inl (-1, m)) := by
      rw [lt_wins_l62, h1, if_pos (by rw [nI_ltI (by omega) (by omega)]; omega), cdf_n hC (by omega)]
      simp only [Option.bind_some]
      rw [ga_has_eq n 4 P (cdf C j) m (by omega) h3 hP]
      simp only [Option.bind_some, hb]
      by_cases q1 : P.testBit (cdf C j) = true
      · rw [if_pos q1, if_pos q1, if_neg (by decide)]
        by_cases q2 : (msk (cdf C) j).testBit (cdf C j) = false
        · rw [if_pos q2, if_pos q2, ga_join_sp hk hk4 (fun i _ => cdf_lt C i) h4]
          simp only [Option.bind_some]
          rw [ga_next_sp hk hk4 h1]
          simp only [Option.bind_some]
          rw [shl_1 (by omega), fa_or, nI_1]
          rfl
        · rw [if_neg q2, if_neg q2]
      · rw [if_neg q1, if_neg q1, if_pos rfl]
    obtain ⟨ih1, ih2⟩ := ih (j + 1) n (by omega) (by omega)
    rw [st]
    constructor
    · intro h
      obtain ⟨g1, g2⟩ := h j (by omega) (by omega)
      rw [if_pos g1, if_pos g2]
      exact ih1 fun i q1 q2 => h i (by omega) q2
    · rintro ⟨i, q1, q2, q3⟩
      by_cases g1 : P.testBit (cdf C j) = true
      · by_cases g2 : (msk (cdf C) j).testBit (cdf C j) = false
        · rw [if_pos g1, if_pos g2]
          refine ih2 ⟨i, ?_, q2, q3⟩
          by_cases q : i = j
          · subst q
            exact absurd ⟨g1, g2⟩ q3
          · omega
        · rw [if_pos g1, if_neg g2]
      · rw [if_neg g1]
theorem mo_wins_l53_sp {C L k P : Nat} {S : Nat → Nat} (hC : C < 65536) (hk : 0 < k) (hk4 : k ≤ 4) (hP : P < 65536) (hSk : S 1 = k) (hSP : S 3 = P) : ∀ (r j n : Nat) (m : rn_Mem), j + r = k → r < n → m.1 116 1 = nI k → m.1 116 3 = nI P → (∀ i, i < j → m.1 119 i = nI (cdf C i)) → ((∀ i, j ≤ i → i < k → nw P (cdf C) i) → ∃ m2, mo_wins_l53 (nI C) (nI L) n (nI (msk (cdf C) j)) (nI j) m = some (.inr m2) ∧ (∀ i, i < k → m2.1 119 i = nI (cdf C i)) ∧ Kr (fun p => p = 119) m m2) ∧ ((∃ i, j ≤ i ∧ i < k ∧ ¬ nw P (cdf C) i) → ∃ m2, mo_wins_l53 (nI C) (nI L) n (nI (msk (cdf C) j)) (nI j) m = some (.inl (-1, m2)) ∧ Kr (fun p => p = 119) m m2) := by
  intro r
  induction r with
  | zero =>
    intro j n m e hn h1 h3 h4
    obtain ⟨n, rfl⟩ : ∃ e, n = e + 1 := ⟨n - 1, by omega⟩
    obtain rfl : j = k := by omega
    refine ⟨fun _ => ⟨m, ?_, h4, Kr.rf⟩, fun ⟨i, q1, q2, _⟩ => by omega⟩
    unfold mo_wins_l53
    rw [h1, if_neg (by rw [nI_ltI (by omega) (by omega)]; omega)]
  | succ r ih =>
    intro j n m e hn h1 h3 h4
    obtain ⟨n, rfl⟩ : ∃ e, n = e + 1 := ⟨n - 1, by omega⟩
    have hx := cdf_lt C j
    have hM := msk_lt (f := cdf C) (j := j) fun i _ => cdf_lt C i
    have hb : ((nI (msk (cdf C) j) >>> (nI (cdf C j) &&& 31)) &&& 1 = 1) = ((msk (cdf C) j).testBit (cdf C j) = true) := propext (bit_1 (by omega) (by omega))
    have r1 : (rm_i m 119 j (nI (cdf C j))).1 119 j = nI (cdf C j) := by rw [mi_get, if_pos ⟨rfl, rfl⟩]
    have r3 : (rm_i m 119 j (nI (cdf C j))).1 116 3 = nI (S 3) := by rw [mi_get, if_neg (by omega), h3, hSP]
    have st : mo_wins_l53 (nI C) (nI L) (n + 1) (nI (msk (cdf C) j)) (nI j) m = if P.testBit (cdf C j) = true then if (msk (cdf C) j).testBit (cdf C j) = true then some (.inl (-1, rm_i m 119 j (nI (cdf C j)))) else mo_wins_l53 (nI C) (nI L) n (nI (msk (cdf C) (j + 1))) (nI (j + 1)) (rm_i m 119 j (nI (cdf C j))) else some (.inl (-1, rm_i m 119 j (nI (cdf C j)))) := by
      rw [mo_wins_l53, h1, if_pos (by rw [nI_ltI (by omega) (by omega)]; omega), cdf_n hC (by omega)]
      simp (disch := omega) only [in_n, nI_n]
      rw [if_pos (by omega)]
      simp only [Option.bind_some]
      rw [if_pos (by omega), r1, mo_isInPack_eq n S (cdf C j) _ (by omega) r3 (by omega), hSP]
      simp only [Option.bind_some]
      by_cases q1 : P.testBit (cdf C j) = true
      · rw [if_pos q1, if_pos q1, if_neg (by decide), if_pos (by omega), r1]
        simp only [hb]
        by_cases q2 : (msk (cdf C) j).testBit (cdf C j) = true
        · rw [if_pos q2, if_pos q2]
        · rw [if_neg q2, if_neg q2, if_pos (by omega), shl_1 (by omega), fa_or, nI_1]
          rfl
      · rw [if_neg q1, if_neg q1, if_pos rfl]
    obtain ⟨ih1, ih2⟩ := ih (j + 1) n (rm_i m 119 j (nI (cdf C j))) (by omega) (by omega) (by rw [mi_get, if_neg (by omega), h1]) (by rw [r3, hSP]) (by
      intro i hi
      rw [mi_get]
      by_cases q : i = j
      · rw [if_pos ⟨rfl, q⟩, q]
      · rw [if_neg (fun z => q z.2)]; exact h4 i (by omega))
    rw [st]
    have kr : Kr (fun p => p = 119) m (rm_i m 119 j (nI (cdf C j))) := Kr.rf.sti (by exact rfl)
    constructor
    · intro h
      obtain ⟨g1, g2⟩ := h j (by omega) (by omega)
      rw [if_pos g1, if_neg (by rw [g2]; decide)]
      obtain ⟨m2, q1, q2, q3⟩ := ih1 fun i q1 q2 => h i (by omega) q2
      exact ⟨m2, q1, q2, kr.tr q3⟩
    · rintro ⟨i, q1, q2, q3⟩
      by_cases g1 : P.testBit (cdf C j) = true
      · by_cases g2 : (msk (cdf C) j).testBit (cdf C j) = true
        · rw [if_pos g1, if_pos g2]
          exact ⟨_, rfl, kr⟩
        · rw [if_pos g1, if_neg g2]
          obtain ⟨m2, p1, p2⟩ := ih2 ⟨i, by
            by_cases q : i = j
            · subst q
              exact absurd ⟨g1, by cases h : (msk (cdf C) i).testBit (cdf C i) with | true => exact absurd h g2 | false => rfl⟩ q3
            · omega, q2, q3⟩
          exact ⟨m2, p1, kr.tr p2⟩
      · rw [if_neg g1]
        exact ⟨_, rfl, kr⟩
theorem j65535 : (65535 : Int64).toInt = 65535 := by decide
theorem C_wins (S V : Nat → Nat) (m : rn_Mem) (hw : WF S) (hc : cSt S V 3 m) (a b : Int32) (n : Nat) (hn : 10 < n) : ∃ r, lt_wins n a b m = some (r, m) ∧ ∀ m1, zOK S (m1.1 116) → ∃ m2, mo_wins n a b m1 = some (r, m2) ∧ Kr (fun p => p = 119) m1 m2 := by
  obtain ⟨⟨g0, g1⟩, c2, c3, c4⟩ := hc
  by_cases ha : 0 ≤ a.toInt ∧ a.toInt ≤ 65535
  case neg =>
    refine ⟨-1, ?_, fun m1 hz => ⟨m1, ?_, Kr.rf⟩⟩
    · unfold lt_wins
      simp only [i_lt, t0, t65535]
      by_cases q : a.toInt < 0
      · rw [if_pos q]
      · rw [if_neg q, if_pos (by omega)]
    · unfold mo_wins
      rw [mo_in_i n a 0 65535 0 65535 m1 (by decide) (by decide), if_neg ha]
      rfl
  have hl1 : lt_wins n a b m = (lt_isNoChair n b m).bind fun (r4, m3) => if r4 = 0 then if (m3.1 4 0) = 0 then some ((-2), m3) else if b < (m3.1 4 1) then (lt_wins_l62 a n 0 b (-1) 0 m3).bind fun q => match q with
            | .inl o => some o
            | .inr (x31, m25) =>
            (ga_winnerOf n x31 m25).bind fun (r35, m34) =>
            some (r35, m34)
          else some ((-1), m3) else some ((-1), m3) := by
    unfold lt_wins
    rw [if_neg (by rw [i_lt, t0]; omega), if_neg (by rw [i_lt, t65535]; omega)]
    rfl
  have hm1 : ∀ m1, mo_wins n a b m1 = (mo_in n (b.toInt64) 0 3 m1).bind fun (r6, m5) => if r6 = 0 then some ((-1), m5) else if (m5.1 116 0) = 0 then some ((-2), m5) else (mo_isChair n b m5).bind fun (r11, m10) => if r11 = 0 then some ((-1), m10) else (mo_wins_l53 a b n 0 0 m10).bind fun q => match q with
          | .inl o => some o
          | .inr m27 =>
          (mo_winning n 119 0 (m27.1 116 1) (m27.1 116 4) m27).bind fun (r32, m31) =>
          if ¬ (m31.1 116 1) = 0 then
            some (rn_rem (b + r32) (m31.1 116 1), m31)
          else none := by
    intro m1
    unfold mo_wins
    rw [mo_in_i n a 0 65535 0 65535 m1 (by decide) (by decide), if_pos ha]
    simp only [Option.bind_some]
    rw [if_neg (by decide)]
    rfl
  by_cases hb : 0 ≤ b.toInt ∧ b.toInt ≤ 3
  case neg =>
    refine ⟨-1, ?_, fun m1 hz => ⟨m1, ?_, Kr.rf⟩⟩
    · rw [hl1, lt_isNoChair_eq, if_neg hb]
      rfl
    · rw [hm1, mo_in_i n b 0 3 0 3 m1 (by decide) (by decide), if_neg hb]
      rfl
  rw [lt_isNoChair_eq, if_pos hb] at hl1
  simp only [Option.bind_some, if_true] at hl1
  have hm2 : ∀ m1, mo_wins n a b m1 = if (m1.1 116 0) = 0 then some ((-2), m1) else (mo_isChair n b m1).bind fun (r11, m10) => if r11 = 0 then some ((-1), m10) else (mo_wins_l53 a b n 0 0 m10).bind fun q => match q with
          | .inl o => some o
          | .inr m27 =>
          (mo_winning n 119 0 (m27.1 116 1) (m27.1 116 4) m27).bind fun (r32, m31) =>
          if ¬ (m31.1 116 1) = 0 then
            some (rn_rem (b + r32) (m31.1 116 1), m31)
          else none := by
    intro m1
    rw [hm1, mo_in_i n b 0 3 0 3 m1 (by decide) (by decide), if_pos hb]
    simp only [Option.bind_some]
    rw [if_neg (by decide)]
  obtain ⟨L, hL, rfl⟩ := i_nat (x := b) (k := 4) hb.1 (by omega)
  obtain ⟨C, hC, rfl⟩ := i_nat (x := a) (k := 65536) ha.1 (by omega)
  rcases S0_01 hw with h0 | h0
  · refine ⟨-2, ?_, fun m1 hz => ⟨m1, ?_, Kr.rf⟩⟩
    · rw [hl1, if_pos (by rw [g0, h0]; rfl)]
    · rw [hm2, if_pos (by rw [zOK_at hz (by omega) (by omega) (by omega) (by omega), h0]; rfl)]
  obtain ⟨wg, wt, wc, wr⟩ := WF_1 hw h0
  obtain ⟨e1, e2, e3, e4, _⟩ := g1 h0
  have hk1 := wg.1
  have hk4 := wg.2.1
  have hP := wg.2.2.2.2.2.1
  have hg0 : ¬ m.1 4 0 = 0 := by rw [show m.1 4 0 = nI (S 0) from g0, h0]; decide
  rw [if_neg hg0, show m.1 4 1 = nI (S 1) from e1] at hl1
  by_cases hLk : L < S 1
  case neg =>
    refine ⟨-1, ?_, fun m1 hz => ⟨m1, ?_, Kr.rf⟩⟩
    · rw [hl1, if_neg (by rw [nI_ltI (by omega) (by omega)]; exact hLk)]
    · rw [hm2, if_neg (by rw [zOK_at hz (by omega) (by omega) (by omega) (by omega), h0]; decide), mo_isChair_eq n S _ m1 (zOK_at hz (by omega) (by omega) (by omega) (by omega)) (by omega), if_neg (by rw [nI_int (by omega)]; omega)]
      rfl
  rw [if_pos (by rw [nI_ltI (by omega) (by omega)]; exact hLk)] at hl1
  obtain ⟨A1, A2⟩ := lt_wins_l62_sp (L := L) hC (show 0 < S 1 by omega) hk4 e1 e3 hP e4 (S 1) 0 n (by omega) (by omega)
  rw [show nI (msk (cdf C) 0) = 0 from rfl, show (L + 0) % S 1 = L from Nat.mod_eq_of_lt hLk, show jo (S 1) (S 4) L (cdf C) 0 = -1 from mi1.symm, show nI 0 = 0 from rfl] at A1 A2
  have hm3 : ∀ m1, zOK S (m1.1 116) → mo_wins n (nI C) (nI L) m1 = (mo_wins_l53 (nI C) (nI L) n 0 0 m1).bind fun q => match q with
          | .inl o => some o
          | .inr m27 =>
          (mo_winning n 119 0 (m27.1 116 1) (m27.1 116 4) m27).bind fun (r32, m31) =>
          if ¬ (m31.1 116 1) = 0 then
            some (rn_rem (nI L + r32) (m31.1 116 1), m31)
          else none := by
    intro m1 hz
    rw [hm2, if_neg (by rw [zOK_at hz (by omega) (by omega) (by omega) (by omega), h0]; decide), mo_isChair_eq n S _ m1 (zOK_at hz (by omega) (by omega) (by omega) (by omega)) (by omega), if_pos (by rw [nI_int (by omega)]; omega)]
    simp only [Option.bind_some]
    rw [if_neg (by decide)]
  by_cases hall : ∀ i, 0 ≤ i → i < S 1 → nw (S 3) (cdf C) i
  · refine ⟨nI ((L + wp (S 4) (cdf C) (S 1 - 1)) % S 1), ?_, fun m1 hz => ?_⟩
    · rw [hl1, A1 hall]
      simp only [Option.bind_some]
      rw [show jo (S 1) (S 4) L (cdf C) (S 1) = nI (jc (S 1) (S 4) L (cdf C) (S 1 - 1)) by rw [show S 1 = (S 1 - 1) + 1 by omega]; rfl, jc_win (by omega) hk4 (fun i _ => cdf_lt C i)]
      rfl
    · obtain ⟨m2, q1, q2, q3⟩ := (mo_wins_l53_sp (L := L) (S := S) hC (show 0 < S 1 by omega) hk4 hP rfl rfl (S 1) 0 n m1 (by omega) (by omega) (zOK_at hz (k := 1) (by omega) (by omega) (by omega) (by omega)) (zOK_at hz (k := 3) (by omega) (by omega) (by omega) (by omega)) (fun i hi => by omega)).1 hall
      rw [show nI (msk (cdf C) 0) = 0 from rfl, show nI 0 = 0 from rfl] at q1
      refine ⟨m2, ?_, q3⟩
      have z116 : m2.1 116 = m1.1 116 := (q3 116 (by omega)).1
      have hwp := wp_le (S 4) (cdf C) (S 1 - 1)
      rw [hm3 m1 hz, q1]
      simp only [Option.bind_some]
      rw [z116, zOK_at hz (k := 1) (by omega) (by omega) (by omega) (by omega), hz.2.1, k0, winning_sp (f := cdf C) (by rw [al119]; omega) (by omega) (by omega) (by omega) (fun j hj => by rw [Nat.zero_add]; exact q2 j hj) (fun j _ => cdf_lt C j)]
      simp only [Option.bind_some]
      rw [z116, zOK_at hz (k := 1) (by omega) (by omega) (by omega) (by omega), if_pos (by rw [nI_eq (by omega) (by omega)]; omega), nI_add, rem_n (by omega) (by omega) (by omega)]
  · have hex : ∃ i, 0 ≤ i ∧ i < S 1 ∧ ¬ nw (S 3) (cdf C) i := by
      apply Classical.byContradiction
      intro h
      exact hall fun i q1 q2 => Classical.byContradiction fun q3 => h ⟨i, q1, q2, q3⟩
    refine ⟨-1, ?_, fun m1 hz => ?_⟩
    · rw [hl1, A2 hex]
      rfl
    · obtain ⟨m2, q1, q3⟩ := (mo_wins_l53_sp (L := L) (S := S) hC (show 0 < S 1 by omega) hk4 hP rfl rfl (S 1) 0 n m1 (by omega) (by omega) (zOK_at hz (k := 1) (by omega) (by omega) (by omega) (by omega)) (zOK_at hz (k := 3) (by omega) (by omega) (by omega) (by omega)) (fun i hi => by omega)).2 hex
      rw [show nI (msk (cdf C) 0) = 0 from rfl, show nI 0 = 0 from rfl] at q1
      refine ⟨m2, ?_, q3⟩
      rw [hm3 m1 hz, q1]
      rfl
