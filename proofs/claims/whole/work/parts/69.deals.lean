/-! KNOWS: deals that a player can think of -/
theorem mi_mi (m : rn_Mem) (p i : Nat) (x y : Int32) : rm_i (rm_i m p i x) p i y = rm_i m p i y := by
  refine Prod.ext ?_ rfl
  funext q j
  rw [mi_get, mi_get, mi_get]
  split
  · rfl
  · rfl
theorem mi_id (m : rn_Mem) (p i : Nat) (x : Int32) (h : m.1 p i = x) : rm_i m p i x = m := by
  refine Prod.ext ?_ rfl
  funext q j
  rw [mi_get]
  split
  · rename_i z
    rw [z.1, z.2, h]
  · rfl
/-- how many ways there are to deal cards: room for each chair, suits that it lacks -/
def dl (n : Nat) (lk : Nat → Nat) : List Nat → (Nat → Nat) → Nat
  | [], _ => 1
  | x :: l, R => fb_sm (fun c => if 0 < R c ∧ (lk c).testBit (x / 4) = false then dl n lk l (fun d => if d = c then R d - 1 else R d) else 0) n
theorem fb_sm_0 (n : Nat) : fb_sm (fun _ => 0) n = 0 := by
  rw [fb_sm_const, Nat.mul_zero]
theorem fb_sm_swap (g : Nat → Nat → Nat) (b : Nat) : ∀ a, fb_sm (fun i => fb_sm (fun j => g i j) b) a = fb_sm (fun j => fb_sm (fun i => g i j) a) b
  | 0 => (fb_sm_0 b).symm
  | a + 1 => by
    rw [fb_sm_succ, fb_sm_swap g b a, ← fb_sm_add]
    rfl
theorem fb_sm_if (c : Prop) [Decidable c] (f : Nat → Nat) (n : Nat) : (if c then fb_sm f n else 0) = fb_sm (fun i => if c then f i else 0) n := by
  split
  · rfl
  · exact (fb_sm_0 n).symm
theorem dl_swap {n : Nat} {lk : Nat → Nat} (x y : Nat) (l : List Nat) (R : Nat → Nat) : dl n lk (x :: y :: l) R = dl n lk (y :: x :: l) R := by
  rw [dl, dl]
  simp only [dl, fb_sm_if]
  rw [fb_sm_swap]
  refine fb_sm_cong fun d _ => fb_sm_cong fun c _ => ?_
  have e : (fun e => if e = d then (if e = c then R e - 1 else R e) - 1 else if e = c then R e - 1 else R e) = (fun e => if e = c then (if e = d then R e - 1 else R e) - 1 else if e = d then R e - 1 else R e) := by
    funext e
    by_cases h1 : e = c
    · by_cases h2 : e = d
      · simp only [h1, h2, if_true]
        rw [← h1, h2]
        simp only [if_true]
      · simp only [if_pos h1, if_neg h2]
    · by_cases h2 : e = d
      · simp only [if_neg h1, if_pos h2]
      · simp only [if_neg h1, if_neg h2]
  rw [e]
  by_cases h : d = c
  · subst h
    simp only [if_true]
    by_cases a1 : 0 < R d - 1
    · by_cases a2 : (lk d).testBit (x / 4) = false
      · by_cases a3 : (lk d).testBit (y / 4) = false
        · simp only [a2, a3, a1, show 0 < R d by omega, and_self, if_true]
        · simp only [show ((lk d).testBit (y / 4) = false) = False from eq_false a3, and_false, if_false, ite_self]
      · simp only [show ((lk d).testBit (x / 4) = false) = False from eq_false a2, and_false, if_false, ite_self]
    · simp only [a1, false_and, if_false, ite_self]
  · simp only [if_neg h, if_neg (fun z : c = d => h z.symm)]
    by_cases a1 : 0 < R c ∧ (lk c).testBit (x / 4) = false
    · by_cases a2 : 0 < R d ∧ (lk d).testBit (y / 4) = false
      · simp only [if_pos a1, if_pos a2]
      · simp only [if_neg a2, ite_self]
    · simp only [if_neg a1, ite_self]
theorem dl_cons {n : Nat} {lk : Nat → Nat} {x : Nat} {l k : List Nat} (h : ∀ R, dl n lk l R = dl n lk k R) (R : Nat → Nat) : dl n lk (x :: l) R = dl n lk (x :: k) R := by
  rw [dl, dl]
  refine fb_sm_cong fun c _ => ?_
  rw [h]
/-- the cards of a hand, from c on -/
def bl (H : Nat) : Nat → Nat → List Nat
  | 0, _ => []
  | r + 1, c => if H.testBit c = true then c :: bl H r (c + 1) else bl H r (c + 1)
theorem bl_c {H G : Nat} : ∀ {r c : Nat}, (∀ x, c ≤ x → x < c + r → H.testBit x = G.testBit x) → bl H r c = bl G r c
  | 0, _, _ => rfl
  | r + 1, c, h => by
    rw [bl, bl, h c (by omega) (by omega), bl_c (r := r) fun x h1 h2 => h x (by omega) (by omega)]
theorem dl_ins {n : Nat} {lk : Nat → Nat} {H x : Nat} (hx : H.testBit x = false) : ∀ {r c : Nat}, c ≤ x → x < c + r → ∀ R, dl n lk (bl (2 ^ x ||| H) r c) R = dl n lk (x :: bl H r c) R
  | 0, c, h1, h2, R => by omega
  | r + 1, c, h1, h2, R => by
    have hb : ∀ y, (2 ^ x ||| H).testBit y = (decide (x = y) || H.testBit y) := by
      intro y
      rw [Nat.testBit_or, Nat.testBit_two_pow]
    by_cases g : c = x
    · subst g
      rw [bl, bl, if_pos (by rw [hb, decide_eq_true rfl]; rfl), if_neg (by rw [hx]; decide), bl_c (G := H) fun y q1 q2 => by rw [hb, decide_eq_false (by omega), Bool.false_or]]
    · rw [bl, bl, hb, decide_eq_false (fun z => g z.symm), Bool.false_or]
      by_cases q : H.testBit c = true
      · rw [if_pos q, if_pos q, dl_cons (k := x :: bl H r (c + 1)) (fun R => dl_ins hx (by omega) (by omega) R), dl_swap]
      · rw [if_neg q, if_neg q]
        exact dl_ins hx (by omega) (by omega) R
/-- what others play at r places, from i on: as bits, as they come -/
def hnm (p f : Nat → Nat) (ch : Nat) : Nat → Nat → Nat
  | 0, _ => 0
  | r + 1, i => if p i = ch then hnm p f ch r (i + 1) else 2 ^ f i ||| hnm p f ch r (i + 1)
def ul (p f : Nat → Nat) (ch : Nat) : Nat → Nat → List Nat
  | 0, _ => []
  | r + 1, i => if p i = ch then ul p f ch r (i + 1) else f i :: ul p f ch r (i + 1)
theorem hnm_bit {p f : Nat → Nat} {ch x : Nat} : ∀ {r i : Nat}, (hnm p f ch r i).testBit x = true ↔ ∃ j, i ≤ j ∧ j < i + r ∧ p j ≠ ch ∧ f j = x
  | 0, i => by
    constructor
    · intro h
      rw [hnm, Nat.zero_testBit] at h
      cases h
    · rintro ⟨j, h1, h2, _⟩
      omega
  | r + 1, i => by
    rw [hnm]
    by_cases q : p i = ch
    · rw [if_pos q, hnm_bit (r := r)]
      constructor
      · rintro ⟨j, h1, h2, h3⟩
        exact ⟨j, by omega, by omega, h3⟩
      · rintro ⟨j, h1, h2, h3, h4⟩
        refine ⟨j, ?_, by omega, h3, h4⟩
        by_cases z : j = i
        · subst z
          exact absurd q h3
        · omega
    · rw [if_neg q, Nat.testBit_or, Bool.or_eq_true, hnm_bit (r := r), Nat.testBit_two_pow, decide_eq_true_eq]
      constructor
      · rintro (h | ⟨j, h1, h2, h3⟩)
        · exact ⟨i, by omega, by omega, q, h⟩
        · exact ⟨j, by omega, by omega, h3⟩
      · rintro ⟨j, h1, h2, h3, h4⟩
        by_cases z : j = i
        · subst z
          exact Or.inl h4
        · exact Or.inr ⟨j, by omega, by omega, h3, h4⟩
theorem ul_len {p f : Nat → Nat} {ch : Nat} : ∀ r i, (ul p f ch r i).length ≤ r
  | 0, _ => Nat.le_refl 0
  | r + 1, i => by
    rw [ul]
    have := ul_len (p := p) (f := f) (ch := ch) r (i + 1)
    split
    · omega
    · rw [List.length_cons]
      omega
theorem dl_ul {n : Nat} {lk p f : Nat → Nat} {ch N : Nat} (hf : ∀ i, i < N → f i < 16) (hinj : ∀ i j, i < N → j < N → f i = f j → i = j) : ∀ r i, i + r = N → ∀ R, dl n lk (ul p f ch r i) R = dl n lk (bl (hnm p f ch r i) 16 0) R
  | 0, i, _, R => by
    rw [ul, hnm, show bl 0 16 0 = [] by decide]
  | r + 1, i, h, R => by
    rw [ul, hnm]
    by_cases q : p i = ch
    · rw [if_pos q, if_pos q]
      exact dl_ul hf hinj r (i + 1) (by omega) R
    · rw [if_neg q, if_neg q, dl_ins ?_ (by omega) (by have := hf i (by omega); omega), dl_cons (fun R => dl_ul hf hinj r (i + 1) (by omega) R)]
      cases z : (hnm p f ch r (i + 1)).testBit (f i) with
      | false => rfl
      | true =>
        obtain ⟨j, h1, h2, h3, h4⟩ := hnm_bit.mp z
        have := hinj j i (by omega) (by omega) h4
        omega
/-- one row of the reference's numbers as a deal -/
def isd (n : Nat) (lk : Nat → Nat) (ch : Nat) : List Nat → (Nat → Nat) → Nat → Bool
  | [], _, _ => true
  | x :: l, R, w => if 0 < R (if w % (n - 1) < ch then w % (n - 1) else w % (n - 1) + 1) ∧ (lk (if w % (n - 1) < ch then w % (n - 1) else w % (n - 1) + 1)).testBit (x / 4) = false then isd n lk ch l (fun d => if d = (if w % (n - 1) < ch then w % (n - 1) else w % (n - 1) + 1) then R d - 1 else R d) (w / (n - 1)) else false
theorem ct_mul (p : Nat → Bool) (a : Nat) (ha : 0 < a) : ∀ b, fb_ct p (a * b) = fb_sm (fun d => fb_ct (fun q => p (d + a * q)) b) a
  | 0 => by
    rw [Nat.mul_zero]
    exact (fb_sm_0 a).symm
  | b + 1 => by
    rw [Nat.mul_add, Nat.mul_one, fb_ct_split, ct_mul p a ha b]
    have : ∀ e, fb_ct (fun k => p (a * b + k)) e = fb_sm (fun d => if p (d + a * b) = true then 1 else 0) e := by
      intro e
      induction e with
      | zero => rfl
      | succ e ih => rw [fb_ct_succ, fb_sm_succ, ih, Nat.add_comm (a * b) e]
    rw [this, ← fb_sm_add]
    rfl
theorem sm_skip (g : Nat → Nat) (ch : Nat) : ∀ n, ch < n → g ch = 0 → fb_sm (fun d => g (if d < ch then d else d + 1)) (n - 1) = fb_sm g n := by
  intro n hn h0
  have h1 : fb_sm (fun d => g (if d < ch then d else d + 1)) (ch + (n - 1 - ch)) = fb_sm g ch + fb_sm (fun k => g (ch + k + 1)) (n - 1 - ch) := by
    rw [fb_sm_split, fb_sm_cong (f := fun d => g (if d < ch then d else d + 1)) (g := g) (n := ch) (fun k hk => by rw [if_pos hk])]
    congr 1
    exact fb_sm_cong fun k hk => by rw [if_neg (by omega)]
  have h2 : fb_sm g (ch + 1 + (n - 1 - ch)) = fb_sm g ch + fb_sm (fun k => g (ch + k + 1)) (n - 1 - ch) := by
    rw [fb_sm_split, fb_sm_succ, h0, Nat.add_zero]
    congr 1
    exact fb_sm_cong fun k hk => by rw [show ch + 1 + k = ch + k + 1 by omega]
  rw [show ch + (n - 1 - ch) = n - 1 by omega] at h1
  rw [show ch + 1 + (n - 1 - ch) = n by omega] at h2
  rw [h1, h2]
theorem isd_ct {n ch : Nat} {lk : Nat → Nat} (hn : 2 ≤ n) (hch : ch < n) : ∀ (l : List Nat) (R : Nat → Nat), R ch = 0 → fb_ct (isd n lk ch l R) ((n - 1) ^ l.length) = dl n lk l R
  | [], R, _ => rfl
  | x :: l, R, h => by
    rw [List.length_cons, Nat.pow_succ, Nat.mul_comm, ct_mul _ _ (by omega), dl]
    have h2 := sm_skip (fun c => if 0 < R c ∧ (lk c).testBit (x / 4) = false then dl n lk l (fun d => if d = c then R d - 1 else R d) else 0) ch n hch (by simp only [h]; rfl)
    rw [← h2]
    refine fb_sm_cong fun d hd => ?_
    have em : ∀ q, (d + (n - 1) * q) % (n - 1) = d := by
      intro q
      rw [Nat.add_mul_mod_self_left, Nat.mod_eq_of_lt hd]
    have ed : ∀ q, (d + (n - 1) * q) / (n - 1) = q := by
      intro q
      rw [Nat.add_mul_div_left _ _ (by omega), Nat.div_eq_of_lt hd, Nat.zero_add]
    simp only [isd, em, ed]
    by_cases q : 0 < R (if d < ch then d else d + 1) ∧ (lk (if d < ch then d else d + 1)).testBit (x / 4) = false
    · simp only [if_pos q]
      refine isd_ct hn hch l _ ?_
      have : ¬ ch = (if d < ch then d else d + 1) := by split <;> omega
      rw [if_neg this]
      exact h
    · simp only [if_neg q]
      rw [fb_ct_zero]
      intro _ _
      rfl
/-! suits that a chair lacks -/
def lka (n fo tr : Nat) (p f : Nat → Nat) (c : Nat) : Nat → Nat
  | 0 => 0
  | i + 1 => if fo ≠ 1 ∧ p i = c ∧ f i / 4 ≠ f (n * (i / n)) / 4 then (lka n fo tr p f c i ||| 2 ^ (f (n * (i / n)) / 4)) ||| (if fo = 2 ∧ tr < 4 ∧ f i / 4 ≠ tr then 2 ^ tr else 0) else lka n fo tr p f c i
theorem lka_lt {n fo tr : Nat} {p f : Nat → Nat} {c : Nat} : ∀ {i : Nat}, (∀ j, j < i → f (n * (j / n)) < 16) → lka n fo tr p f c i < 2 ^ 4
  | 0, _ => by show 0 < 2 ^ 4; decide
  | i + 1, h => by
    have h1 := lka_lt (n := n) (fo := fo) (tr := tr) (p := p) (f := f) (c := c) (i := i) fun j hj => h j (by omega)
    rw [lka]
    split
    · refine or_lt (or_lt h1 (pw_lt (by have := h i (by omega); omega))) ?_
      split
      · rename_i z
        exact pw_lt z.2.1
      · decide
    · exact h1
theorem lka_1 {n tr : Nat} {p f : Nat → Nat} {c : Nat} : ∀ i, lka n 1 tr p f c i = 0
  | 0 => rfl
  | i + 1 => by
    rw [lka, if_neg (fun z => z.1 rfl)]
    exact lka_1 i
theorem noteLacks_l3_sp {n t fo tr k : Nat} {p f : Nat → Nat} (hn : 2 ≤ n) (hn4 : n ≤ 4) (hs : n * t ≤ 12) (hk : k < t) (hfo : fo ≤ 2) (hf1 : fo ≠ 1) (hf : ∀ i, i < n * t → f i < 16) (hp : ∀ i, i < n * t → p i < 4) : ∀ (r i nf : Nat) (m : rn_Mem), i + r = n * k → r < nf → m.1 4 1 = nI n → m.1 4 4 = cT tr → m.1 4 5 = nI fo → (∀ i, i < n * t → m.1 15 i = nI (f i) ∧ m.1 16 i = nI (p i)) → (∀ c, c < n → m.1 105 c = nI (lka n fo tr p f c i)) → (∀ i, i < n * t → p i < n) → ∃ m2, ju_noteLacks_l3 4 14 (nI k) nf (nI i) m = some m2 ∧ (∀ c, c < n → m2.1 105 c = nI (lka n fo tr p f c (n * k))) ∧ Kr (fun p => p = 105) m m2 := by
  have hkn := kn (n := n) hk
  intro r
  induction r with
  | zero =>
    intro i nf m e hnf h1 h4 h5 hc hl hpn
    obtain ⟨nf, rfl⟩ : ∃ e, nf = e + 1 := ⟨nf - 1, by omega⟩
    obtain rfl : i = n * k := by omega
    refine ⟨m, ?_, hl, Kr.rf⟩
    unfold ju_noteLacks_l3
    rw [h1, pk_mul, Nat.mul_comm k n, if_neg (by rw [nI_ltI (by omega) (by omega)]; omega)]
  | succ r ih =>
    intro i nf m e hnf h1 h4 h5 hc hl hpn
    obtain ⟨nf, rfl⟩ : ∃ e, nf = e + 1 := ⟨nf - 1, by omega⟩
    have hmod := Nat.mod_lt i (show n > 0 by omega)
    have hdm1 := Nat.div_add_mod i n
    have hfi := hf i (by omega)
    have hf0 := hf (n * (i / n)) (by omega)
    have hpi := hpn i (by omega)
    have hlk := lka_lt (n := n) (fo := fo) (tr := tr) (p := p) (f := f) (c := p i) (i := i) fun j hj => hf _ (by have := Nat.div_add_mod j n; omega)
    obtain ⟨c1, c2⟩ := hc i (by omega)
    have hn0 : ¬ nI n = 0 := nI_ne0 (by omega) (by omega)
    obtain ⟨m', s1, s2, s3⟩ : ∃ m', ju_noteLacks_l3 4 14 (nI k) (nf + 1) (nI i) m = ju_noteLacks_l3 4 14 (nI k) nf (nI (i + 1)) m' ∧ (∀ c, c < n → m'.1 105 c = nI (lka n fo tr p f c (i + 1))) ∧ Kr (fun p => p = 105) m m' := by
      rw [ju_noteLacks_l3, h1, pk_mul, Nat.mul_comm k n, if_pos (by rw [nI_ltI (by omega) (by omega)]; omega), if_pos hn0, rem_n (by omega) (by omega) (by omega), pk_sub (by omega), show i - i % n = n * (i / n) by omega, if_pos ((in_n (by omega)).mpr (by omega)), nI_n (by omega), nI_n (by omega), show m.1 (14 + 1) (n * (i / n)) = _ from (hc _ (by omega)).1, shr_2 (by omega)]
      simp only [Option.bind_some]
      rw [if_pos ((in_n (by omega)).mpr (by omega)), show m.1 (14 + 1) i = _ from c1, shr_2 (by omega), nI_1]
      by_cases q1 : f i / 4 = f (n * (i / n)) / 4
      · rw [if_pos (by rw [q1])]
        refine ⟨m, rfl, fun c hc' => ?_, Kr.rf⟩
        rw [lka, if_neg (fun z => z.2.2 q1)]
        exact hl c hc'
      · rw [if_neg (by rw [nI_eq (by omega) (by omega)]; exact q1), if_pos ((in_n (by omega)).mpr (by omega)), show m.1 (14 + 2) i = _ from c2, if_pos ((in_n (by omega)).mpr (by omega)), if_pos ((in_n (by omega)).mpr (by omega)), nI_n (by omega), hl _ hpi, shl_1 (by omega), fa_or]
        have k4 : ∀ x, (rm_i m 105 (p i) x).1 4 = m.1 4 := by
          intro x
          funext j
          rw [mi_get, if_neg (by omega)]
        have k16 : ∀ x, (rm_i m 105 (p i) x).1 (14 + 2) i = nI (p i) := by
          intro x
          rw [mi_get, if_neg (by omega)]
          exact c2
        simp only [k4, k16]
        rw [h5, h4]
        have fin : ∀ x, (∀ c, c < n → (rm_i m 105 (p i) (nI x)).1 105 c = nI (if c = p i then x else lka n fo tr p f c i)) := by
          intro x c hc'
          rw [mi_get]
          by_cases z : c = p i
          · rw [if_pos ⟨rfl, z⟩, if_pos z]
          · rw [if_neg (fun y => z y.2), if_neg z]
            exact hl c hc'
        have hlast : ∀ x, x = (lka n fo tr p f (p i) i ||| 2 ^ (f (n * (i / n)) / 4)) ||| (if fo = 2 ∧ tr < 4 ∧ f i / 4 ≠ tr then 2 ^ tr else 0) → ∀ c, c < n → (rm_i m 105 (p i) (nI x)).1 105 c = nI (lka n fo tr p f c (i + 1)) := by
          intro x hx c hc'
          rw [fin x c hc', lka]
          by_cases z : c = p i
          · rw [if_pos z, z, if_pos ⟨hf1, rfl, q1⟩, hx]
          · rw [if_neg z, if_neg (fun y => z y.2.1.symm)]
        by_cases q2 : fo = 2
        · rw [if_pos (by rw [q2]; rfl)]
          by_cases q3 : 4 ≤ tr
          · rw [if_pos (cT_lt.mpr q3)]
            refine ⟨_, rfl, hlast _ ?_, Kr.rf.sti (by exact rfl)⟩
            rw [if_neg (by omega), Nat.or_zero]
          · have hcT : cT tr = nI tr := by unfold cT; rw [if_pos (by omega)]
            rw [if_neg (mt cT_lt.mp q3), hcT]
            by_cases q4 : f i / 4 = tr
            · rw [if_pos (by rw [q4])]
              refine ⟨_, rfl, hlast _ ?_, Kr.rf.sti (by exact rfl)⟩
              rw [if_neg (fun z => z.2.2 q4), Nat.or_zero]
            · rw [if_neg (by rw [nI_eq (by omega) (by omega)]; exact q4), if_pos ((in_n (by omega)).mpr (by omega)), if_pos ((in_n (by omega)).mpr (by omega)), if_pos ((in_n (by omega)).mpr (by omega)), nI_n (by omega), mi_get, if_pos ⟨rfl, rfl⟩, shl_1 (by omega), fa_or, mi_mi]
              refine ⟨_, rfl, hlast _ ?_, Kr.rf.sti (by exact rfl)⟩
              rw [if_pos ⟨q2, by omega, q4⟩]
        · rw [if_neg (by rw [k2, nI_eq (by omega) (by omega)]; exact q2)]
          refine ⟨_, rfl, hlast _ ?_, Kr.rf.sti (by exact rfl)⟩
          rw [if_neg (fun z => q2 z.1), Nat.or_zero]
    have ko : ∀ q, q ≠ 105 → m'.1 q = m.1 q := fun q hq => (s3 q hq).1
    obtain ⟨m2, b1, b2, b3⟩ := ih (i + 1) nf m' (by omega) (by omega) (by rw [ko 4 (by omega)]; exact h1) (by rw [ko 4 (by omega)]; exact h4) (by rw [ko 4 (by omega)]; exact h5) (by rw [ko 15 (by omega), ko 16 (by omega)]; exact hc) s2 hpn
    exact ⟨m2, by rw [s1]; exact b1, b2, s3.tr b3⟩
theorem findLacks_l9_sp {n : Nat} {a1 : Int32} (hn4 : n ≤ 4) : ∀ (r k nf : Nat) (m : rn_Mem), k + r = n → r < nf → (∀ i, i < k → m.1 146 i = 0) → ∃ m2, mo_findLacks_l9 a1 (nI n) nf (nI k) m = some m2 ∧ (∀ i, i < n → m2.1 146 i = 0) ∧ Kr (fun p => p = 146) m m2 := by
  intro r
  induction r with
  | zero =>
    intro k nf m e hnf h
    obtain ⟨nf, rfl⟩ : ∃ e, nf = e + 1 := ⟨nf - 1, by omega⟩
    obtain rfl : k = n := by omega
    refine ⟨m, ?_, h, Kr.rf⟩
    unfold mo_findLacks_l9
    rw [if_neg (by rw [nI_ltI (by omega) (by omega)]; omega)]
  | succ r ih =>
    intro k nf m e hnf h
    obtain ⟨nf, rfl⟩ : ∃ e, nf = e + 1 := ⟨nf - 1, by omega⟩
    obtain ⟨m2, b1, b2, b3⟩ := ih (k + 1) nf (rm_i m 146 k 0) (by omega) (by omega) (by
      intro i hi
      rw [mi_get]
      by_cases g : i = k
      · rw [if_pos ⟨rfl, g⟩]
      · rw [if_neg (fun z => g z.2)]
        exact h i (by omega))
    refine ⟨m2, ?_, b2, Kr.tr (Kr.rf.sti (by exact rfl)) b3⟩
    unfold mo_findLacks_l9
    rw [if_pos (by rw [nI_ltI (by omega) (by omega)]; omega), if_pos ((in_n (by omega)).mpr (by omega)), nI_n (by omega), nI_1]
    exact b1
theorem findLacks_l29_sp {n t fo tr ls b k : Nat} {f : Nat → Nat} (hn : 2 ≤ n) (hn4 : n ≤ 4) (ht : t ≤ 4) (hs : n * t ≤ 12) (hk : k < t) (hb : b < n) (hfo : fo ≤ 2) (hf : ∀ i, i < n * t → f i < 16) : ∀ (r i nf : Nat) (m : rn_Mem), i + r = n * k → r < nf → m.1 116 1 = nI n → m.1 116 4 = zT tr → m.1 116 5 = nI fo → (∀ i, i < n * t → m.1 141 i = nI (f i)) → (∀ j, j < t → m.1 139 j = nI (rl n tr ls b f j)) → (∀ c, c < n → m.1 146 c = nI (lka n fo tr (rpa n tr ls b f) f c i)) → ∃ m2, mo_findLacks_l29 (nI k) (nI n) nf (nI i) m = some m2 ∧ (∀ c, c < n → m2.1 146 c = nI (lka n fo tr (rpa n tr ls b f) f c (n * k))) ∧ Kr (fun p => p = 146) m m2 := by
  have hkn := kn (n := n) hk
  intro r
  induction r with
  | zero =>
    intro i nf m e hnf h1 h4 h5 hc hL hl
    obtain ⟨nf, rfl⟩ : ∃ e, nf = e + 1 := ⟨nf - 1, by omega⟩
    obtain rfl : i = n * k := by omega
    refine ⟨m, ?_, hl, Kr.rf⟩
    unfold mo_findLacks_l29
    rw [pk_mul, Nat.mul_comm k n, if_neg (by rw [nI_ltI (by omega) (by omega)]; omega)]
  | succ r ih =>
    intro i nf m e hnf h1 h4 h5 hc hL hl
    obtain ⟨nf, rfl⟩ : ∃ e, nf = e + 1 := ⟨nf - 1, by omega⟩
    have hmod := Nat.mod_lt i (show n > 0 by omega)
    have hdm1 := Nat.div_add_mod i n
    have hfi := hf i (by omega)
    have hf0 := hf (n * (i / n)) (by omega)
    have hpi := rpa_lt (tr := tr) (ls := ls) (b := b) (k := i) (f := f) (show 0 < n by omega)
    have hik : i / n < t := by rw [Nat.div_lt_iff_lt_mul (by omega), Nat.mul_comm]; omega
    have hn0 : ¬ nI n = 0 := nI_ne0 (by omega) (by omega)
    by_cases hf1 : fo = 1
    · refine ⟨m, ?_, fun c hc' => ?_, Kr.rf⟩
      · unfold mo_findLacks_l29
        rw [pk_mul, Nat.mul_comm k n, if_pos (by rw [nI_ltI (by omega) (by omega)]; omega), h5, if_pos (by rw [hf1]; rfl)]
      · rw [hl c hc', hf1, lka_1, lka_1]
    have hplay := playerAt_sp (nf := nf) (i := i) (m := m) hn hn4 hb (by omega) (by omega) h1 (hL _ hik)
    obtain ⟨m', s1, s2, s3⟩ : ∃ m', mo_findLacks_l29 (nI k) (nI n) (nf + 1) (nI i) m = mo_findLacks_l29 (nI k) (nI n) nf (nI (i + 1)) m' ∧ (∀ c, c < n → m'.1 146 c = nI (lka n fo tr (rpa n tr ls b f) f c (i + 1))) ∧ Kr (fun p => p = 146) m m' := by
      rw [mo_findLacks_l29, pk_mul, Nat.mul_comm k n, if_pos (by rw [nI_ltI (by omega) (by omega)]; omega), h5, if_neg (by rw [k1, nI_eq (by omega) (by omega)]; exact hf1), if_pos hn0, rem_n (by omega) (by omega) (by omega), pk_sub (by omega), show i - i % n = n * (i / n) by omega, if_pos ((in_n (by omega)).mpr (by omega)), nI_n (by omega), nI_n (by omega), hc _ (by omega)]
      unfold mo_suitOf
      simp only [Option.bind_some]
      rw [if_pos ((in_n (by omega)).mpr (by omega)), hc i (by omega), k4, pk_div (by omega) (by omega) (by omega), pk_div (by omega) (by omega) (by omega), nI_1]
      by_cases q1 : f i / 4 = f (n * (i / n)) / 4
      · rw [if_pos (by rw [q1])]
        refine ⟨m, rfl, fun c hc' => ?_, Kr.rf⟩
        rw [lka, if_neg (fun z => z.2.2 q1)]
        exact hl c hc'
      · rw [if_neg (by rw [nI_eq (by omega) (by omega)]; exact q1), hplay]
        simp only [Option.bind_some]
        have hplay2 : ∀ x, mo_playerAt nf (nI i) (rm_i m 146 (rpa n tr ls b f i) x) = some (nI (rpa n tr ls b f i), rm_i m 146 (rpa n tr ls b f i) x) := by
          intro x
          exact playerAt_sp (nf := nf) (i := i) (m := rm_i m 146 (rpa n tr ls b f i) x) hn hn4 hb (by omega) (by omega) (by rw [mi_get, if_neg (by omega)]; exact h1) (by rw [mi_get, if_neg (by omega)]; exact hL _ hik)
        rw [if_pos ((in_n (by omega)).mpr (by omega)), if_pos ((in_n (by omega)).mpr (by omega)), nI_n (by omega), hl _ hpi, shl_1 (by omega), fa_or, hplay2]
        simp only [Option.bind_some]
        have kz : ∀ x, (rm_i m 146 (rpa n tr ls b f i) x).1 116 = m.1 116 := by
          intro x
          funext j
          rw [mi_get, if_neg (by omega)]
        rw [kz, h5, h4, if_pos ((in_n (by omega)).mpr (by omega)), nI_n (by omega), mi_get, if_pos (show 146 = 146 ∧ rpa n tr ls b f i = rpa n tr ls b f i from ⟨rfl, rfl⟩)]
        have hx : ∃ x, (if nI fo = 2 then if zT tr < 0 then some 0 else if nI (f i / 4) = zT tr then some 0 else some ((1 : Int32) <<< (zT tr &&& 31)) else some 0) = some (nI x) ∧ x = (if fo = 2 ∧ tr < 4 ∧ f i / 4 ≠ tr then 2 ^ tr else 0) := by
          by_cases q2 : fo = 2
          · rw [if_pos (by rw [q2]; rfl)]
            by_cases q3 : 4 ≤ tr
            · exact ⟨0, by rw [if_pos (zT_lt.mpr q3)]; rfl, by rw [if_neg (by omega)]⟩
            · have hcT : zT tr = nI tr := by unfold zT; rw [if_pos (by omega)]
              rw [if_neg (mt zT_lt.mp q3), hcT]
              by_cases q4 : f i / 4 = tr
              · exact ⟨0, by rw [if_pos (by rw [q4])]; rfl, by rw [if_neg (fun z => z.2.2 q4)]⟩
              · exact ⟨2 ^ tr, by rw [if_neg (by rw [nI_eq (by omega) (by omega)]; exact q4), shl_1 (by omega)], by rw [if_pos ⟨q2, by omega, q4⟩]⟩
          · exact ⟨0, by rw [if_neg (by rw [k2, nI_eq (by omega) (by omega)]; exact q2)]; rfl, by rw [if_neg (fun z => q2 z.1)]⟩
        obtain ⟨x, x1, x2⟩ := hx
        rw [x1]
        simp only [Option.bind_some]
        rw [if_pos ((in_n (by omega)).mpr (by omega)), fa_or, mi_mi]
        refine ⟨_, rfl, fun c hc' => ?_, Kr.rf.sti (by exact rfl)⟩
        rw [mi_get, lka]
        by_cases z : c = rpa n tr ls b f i
        · rw [if_pos ⟨rfl, z⟩, z, if_pos ⟨hf1, rfl, q1⟩, x2]
        · rw [if_neg (fun y => z y.2), if_neg (fun y => z y.2.1.symm)]
          exact hl c hc'
    have ko : ∀ q, q ≠ 146 → m'.1 q = m.1 q := fun q hq => (s3 q hq).1
    obtain ⟨m2, b1, b2, b3⟩ := ih (i + 1) nf m' (by omega) (by omega) (by rw [ko 116 (by omega)]; exact h1) (by rw [ko 116 (by omega)]; exact h4) (by rw [ko 116 (by omega)]; exact h5) (by rw [ko 141 (by omega)]; exact hc) (by rw [ko 139 (by omega)]; exact hL) s2
    exact ⟨m2, by rw [s1]; exact b1, b2, s3.tr b3⟩
