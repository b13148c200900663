/-! BEST: what a side can still win, both seeing all hands -/
def fu (f : Nat → Nat) (i x : Nat) : Nat → Nat := fun j => if j = i then x else f j
theorem fu_n {f : Nat → Nat} {i x j : Nat} (h : j ≠ i) : fu f i x j = f j := by unfold fu; rw [if_neg h]
theorem fu_s {f : Nat → Nat} {i x : Nat} : fu f i x i = x := by unfold fu; rw [if_pos rfl]
def opu (most : Bool) (acc : Option Nat) (v : Nat) : Option Nat := some (match acc with | none => v | some a => if most = true then (if a < v then v else a) else (if v < a then v else a))
def opf (most : Bool) (M : Nat) (g : Nat → Nat) : Nat → Nat → Option Nat → Option Nat
  | 0, _, acc => acc
  | r + 1, x, acc => opf most M g r (x + 1) (if M.testBit x = true then opu most acc (g x) else acc)
theorem opf_c {most : Bool} {M N : Nat} {g h : Nat → Nat} : ∀ {r x : Nat} {acc : Option Nat}, (∀ y, x ≤ y → y < x + r → M.testBit y = N.testBit y ∧ (N.testBit y = true → g y = h y)) → opf most M g r x acc = opf most N h r x acc
  | 0, _, _, _ => rfl
  | r + 1, x, acc, q => by
    rw [opf, opf, opf_c (N := N) (h := h) (r := r) fun y h1 h2 => q y (by omega) (by omega)]
    obtain ⟨q1, q2⟩ := q x (by omega) (by omega)
    rw [q1]
    by_cases z : N.testBit x = true
    · rw [if_pos z, if_pos z, q2 z]
    · rw [if_neg z, if_neg z]
/-- the lowest card first -/
theorem opf_low {most : Bool} {M : Nat} {g : Nat → Nat} {x : Nat} (hx : M.testBit x = true) : ∀ {r c : Nat} {acc : Option Nat}, c ≤ x → x < c + r → (∀ y, c ≤ y → y < x → M.testBit y = false) → opf most M g r c acc = opf most (bd M (2 ^ x)) g r c (opu most acc (g x))
  | 0, c, _, h1, h2, _ => by omega
  | r + 1, c, acc, h1, h2, h3 => by
    rw [opf, opf]
    have hb : ∀ y, (bd M (2 ^ x)).testBit y = (M.testBit y && !decide (x = y)) := by
      intro y
      rw [bd_bit, Nat.testBit_two_pow]
    by_cases q : c = x
    · subst q
      rw [if_pos hx, if_neg (by rw [hb, decide_eq_true rfl]; simp)]
      refine opf_c fun y q1 q2 => ⟨?_, fun _ => rfl⟩
      rw [hb, decide_eq_false (by omega)]
      simp
    · rw [if_neg (by rw [h3 c (by omega) (by omega)]; decide), if_neg (by rw [hb, h3 c (by omega) (by omega)]; simp)]
      exact opf_low hx (by omega) (by omega) fun y q1 q2 => h3 y (by omega) q2
theorem opf_0 {most : Bool} {g : Nat → Nat} : ∀ {r c : Nat} {acc : Option Nat}, opf most 0 g r c acc = acc
  | 0, _, _ => rfl
  | r + 1, c, acc => by
    rw [opf, if_neg (by rw [Nat.zero_testBit]; decide)]
    exact opf_0
theorem opu_add {most : Bool} {acc : Option Nat} {v d : Nat} : opu most (acc.map (d + ·)) (d + v) = (opu most acc v).map (d + ·) := by
  cases acc with
  | none => rfl
  | some a =>
    unfold opu
    simp only [Option.map_some]
    congr 1
    cases most
    · simp only [if_neg (show ¬ false = true by decide)]
      by_cases q : v < a
      · rw [if_pos q, if_pos (by omega)]
      · rw [if_neg q, if_neg (by omega)]
    · simp only [if_true]
      by_cases q : a < v
      · rw [if_pos q, if_pos (by omega)]
      · rw [if_neg q, if_neg (by omega)]
theorem opf_add {most : Bool} {M : Nat} {g : Nat → Nat} {d : Nat} : ∀ {r x : Nat} {acc : Option Nat}, opf most M (fun y => d + g y) r x (acc.map (d + ·)) = (opf most M g r x acc).map (d + ·)
  | 0, _, _ => rfl
  | r + 1, x, acc => by
    rw [opf, opf, ← opf_add (r := r)]
    congr 1
    by_cases z : M.testBit x = true
    · rw [if_pos z, if_pos z]
      exact opu_add
    · rw [if_neg z, if_neg z]
theorem opf_some {most : Bool} {M : Nat} {g : Nat → Nat} : ∀ {r x : Nat} {acc : Option Nat}, (acc ≠ none ∨ ∃ y, x ≤ y ∧ y < x + r ∧ M.testBit y = true) → ∃ v, opf most M g r x acc = some v
  | 0, x, acc, h => by
    rcases h with h | ⟨y, h1, h2, _⟩
    · cases acc with
      | none => exact absurd rfl h
      | some v => exact ⟨v, rfl⟩
    · omega
  | r + 1, x, acc, h => by
    rw [opf]
    apply opf_some
    by_cases z : M.testBit x = true
    · rw [if_pos z]
      exact Or.inl (by unfold opu; exact fun q => by cases q)
    · rw [if_neg z]
      rcases h with h | ⟨y, h1, h2, h3⟩
      · exact Or.inl h
      · refine Or.inr ⟨y, ?_, by omega, h3⟩
        by_cases q : y = x
        · subst q
          exact absurd h3 z
        · omega
/-- the value is reached, and none is better -/
theorem opf_best {most : Bool} {M : Nat} {g : Nat → Nat} {v : Nat} : ∀ {r x : Nat} {acc : Option Nat}, opf most M g r x acc = some v → (∀ a, acc = some a → (most = true → a ≤ v) ∧ (most = false → v ≤ a)) ∧ (∀ y, x ≤ y → y < x + r → M.testBit y = true → (most = true → g y ≤ v) ∧ (most = false → v ≤ g y)) ∧ (acc = some v ∨ ∃ y, x ≤ y ∧ y < x + r ∧ M.testBit y = true ∧ g y = v)
  | 0, x, acc, h => by
    rw [opf] at h
    subst h
    refine ⟨fun a ha => ?_, fun y h1 h2 _ => by omega, Or.inl rfl⟩
    cases ha
    exact ⟨fun _ => Nat.le_refl _, fun _ => Nat.le_refl _⟩
  | r + 1, x, acc, h => by
    rw [opf] at h
    obtain ⟨i1, i2, i3⟩ := opf_best h
    by_cases z : M.testBit x = true
    · rw [if_pos z] at i1 i3
      have hu : ∃ w, opu most acc (g x) = some w ∧ ((most = true → g x ≤ w) ∧ (most = false → w ≤ g x)) ∧ (∀ a, acc = some a → (most = true → a ≤ w) ∧ (most = false → w ≤ a)) ∧ (w = g x ∨ acc = some w) := by
        unfold opu
        refine ⟨_, rfl, ?_⟩
        cases acc with
        | none => exact ⟨⟨fun _ => Nat.le_refl _, fun _ => Nat.le_refl _⟩, fun a ha => (by cases ha), Or.inl rfl⟩
        | some a =>
          cases most
          · simp only [if_neg (show ¬ false = true by decide)]
            refine ⟨⟨fun q => (by cases q), fun _ => ?_⟩, fun a' ha => ?_, ?_⟩
            · split <;> omega
            · cases ha
              exact ⟨fun q => (by cases q), fun _ => by split <;> omega⟩
            · split
              · exact Or.inl rfl
              · exact Or.inr rfl
          · simp only [if_true]
            refine ⟨⟨fun _ => ?_, fun q => by cases q⟩, fun a' ha => ?_, ?_⟩
            · split <;> omega
            · cases ha
              exact ⟨fun _ => by split <;> omega, fun q => by cases q⟩
            · split
              · exact Or.inl rfl
              · exact Or.inr rfl
      obtain ⟨w, w1, w2, w3, w4⟩ := hu
      have i1' := i1 w w1
      refine ⟨fun a ha => ⟨fun q => Nat.le_trans ((w3 a ha).1 q) (i1'.1 q), fun q => Nat.le_trans (i1'.2 q) ((w3 a ha).2 q)⟩, fun y h1 h2 h3 => ?_, ?_⟩
      · by_cases q : y = x
        · subst q
          exact ⟨fun q => Nat.le_trans (w2.1 q) (i1'.1 q), fun q => Nat.le_trans (i1'.2 q) (w2.2 q)⟩
        · exact i2 y (by omega) (by omega) h3
      · rcases i3 with i3 | ⟨y, h1, h2, h3, h4⟩
        · rw [w1] at i3
          cases i3
          rcases w4 with w4 | w4
          · exact Or.inr ⟨x, by omega, by omega, z, w4.symm⟩
          · exact Or.inl w4
        · exact Or.inr ⟨y, by omega, by omega, h3, h4⟩
    · rw [if_neg z] at i1 i3
      refine ⟨i1, fun y h1 h2 h3 => ?_, ?_⟩
      · by_cases q : y = x
        · subst q
          exact absurd h3 z
        · exact i2 y (by omega) (by omega) h3
      · rcases i3 with i3 | ⟨y, h1, h2, h3, h4⟩
        · exact Or.inl i3
        · exact Or.inr ⟨y, by omega, by omega, h3, h4⟩
/-- the suit led at a place -/
def sl (n : Nat) (f : Nat → Nat) (i : Nat) : Nat := if i % n = 0 then 4 else f (n * (i / n)) / 4
def hu (H : Nat → Nat) (p x : Nat) : Nat → Nat := fun c => if c = p then bd (H c) (2 ^ x) else H c
/-- a trick that is over behind this place, won by side 0 -/
def on (n tr ls b : Nat) (f : Nat → Nat) (i : Nat) : Nat := if (i + 1) % n = 0 ∧ rwn n tr ls b f (i / n) % 2 = 0 then 1 else 0
def Wv (n fo tr ls b : Nat) : Nat → Nat → (Nat → Nat) → (Nat → Nat) → Nat
  | 0, _, _, _ => 0
  | r + 1, i, f, H => (opf (decide (rpa n tr ls b f i % 2 = 0)) (lwm fo tr (sl n f i) (H (rpa n tr ls b f i))) (fun x => on n tr ls b (fu f i x) i + Wv n fo tr ls b r (i + 1) (fu f i x) (hu H (rpa n tr ls b f i) x)) 16 0 none).getD 0
/-! how many cards a chair still has -/
def cnt (H : Nat) : Nat := fb_ct (fun x => H.testBit x) 16
/-- how far behind the leader a chair sits -/
def ofs (n L c : Nat) : Nat := if L ≤ c then c - L else c + n - L
def iv (n t tr ls b : Nat) (f H : Nat → Nat) (i : Nat) : Prop := ∀ c, c < n → cnt (H c) + i / n + (if ofs n (rl n tr ls b f (i / n)) c < i % n then 1 else 0) = t
theorem cnt_bd {H x : Nat} (hx : x < 16) (hb : H.testBit x = true) : cnt (bd H (2 ^ x)) + 1 = cnt H := by
  have h := fb_ct_upd (fun y => H.testBit y) false (i := x) (n := 16) hx
  simp only [hb, if_true] at h
  unfold cnt
  rw [fb_ct_cong (q := fun k => if k = x then false else H.testBit k) (fun k _ => ?_)]
  · simp only [if_neg (show ¬ false = true by decide), Nat.add_zero] at h
    exact h
  · rw [bd_bit, Nat.testBit_two_pow]
    by_cases q : k = x
    · rw [if_pos q, decide_eq_true q.symm]
      simp
    · rw [if_neg q, decide_eq_false (fun z => q z.symm)]
      simp
theorem cnt_or {H x : Nat} (hx : x < 16) (hb : H.testBit x = false) : cnt (2 ^ x ||| H) = cnt H + 1 := by
  have h := cnt_bd (H := 2 ^ x ||| H) hx (by rw [Nat.testBit_or, Nat.testBit_two_pow_self]; rfl)
  rw [← h]
  congr 1
  unfold cnt
  refine fb_ct_cong fun k _ => ?_
  rw [bd_bit, Nat.testBit_or, Nat.testBit_two_pow]
  by_cases q : x = k
  · subst q
    rw [hb, decide_eq_true rfl]
    rfl
  · rw [decide_eq_false q]
    simp
/-- the step from a place to the next: the mover has one card less -/
theorem iv_step {n t tr ls b i : Nat} {f g H G : Nat → Nat} (hn : 2 ≤ n) (hb : b < n) (hfg : ∀ j, j < n * (i / n) → g j = f j) (hG : ∀ c, c < n → cnt (H c) = cnt (G c) + (if c = rpa n tr ls b f i then 1 else 0)) : iv n t tr ls b f H i ↔ iv n t tr ls b g G (i + 1) := by
  have hm := Nat.mod_lt i (show n > 0 by omega)
  have hL := rl_lt (tr := tr) (ls := ls) (f := f) (show 0 < n by omega) hb (i / n)
  have hp : rpa n tr ls b f i = if rl n tr ls b f (i / n) + i % n < n then rl n tr ls b f (i / n) + i % n else rl n tr ls b f (i / n) + i % n - n := by
    unfold rpa
    split
    · rw [Nat.mod_eq_of_lt (by assumption)]
    · rw [Nat.mod_eq_sub_mod (by omega), Nat.mod_eq_of_lt (by omega)]
  have hd : (i + 1) / n = if i % n + 1 < n then i / n else i / n + 1 := by
    have := Nat.div_add_mod i n
    split
    · rename_i q
      rw [← this, Nat.add_assoc, Nat.mul_add_div (by omega), Nat.div_eq_of_lt q, Nat.mul_add_div (by omega), Nat.div_eq_of_lt hm]
    · rw [← this, Nat.add_assoc, show i % n + 1 = n by omega, Nat.mul_add_div (by omega), Nat.div_self (by omega), Nat.mul_add_div (by omega), Nat.div_eq_of_lt hm]
  have hd2 := md_s (x := i) (show 0 < n by omega)
  unfold iv
  constructor
  · intro h c hc
    have h1 := h c hc
    rw [hG c hc, hp] at h1
    have hL2 := rl_lt (tr := tr) (ls := ls) (f := g) (show 0 < n by omega) hb ((i + 1) / n)
    by_cases q : i % n + 1 < n
    · rw [if_pos q] at hd hd2
      rw [hd, hd2, rl_c (f := g) (g := f) hfg]
      unfold ofs at h1 ⊢
      repeat' split at h1
      all_goals repeat' split
      all_goals omega
    · rw [if_neg q] at hd hd2
      rw [hd2, hd, if_neg (by omega)]
      unfold ofs at h1
      repeat' split at h1
      all_goals omega
  · intro h c hc
    have h1 := h c hc
    rw [hG c hc, hp]
    by_cases q : i % n + 1 < n
    · rw [if_pos q] at hd hd2
      rw [hd, hd2, rl_c (f := g) (g := f) hfg] at h1
      unfold ofs at h1 ⊢
      repeat' split at h1
      all_goals repeat' split
      all_goals omega
    · rw [if_neg q] at hd hd2
      rw [hd2, hd, if_neg (by omega)] at h1
      unfold ofs
      repeat' split
      all_goals omega
theorem iv_mover {n t tr ls b i : Nat} {f H : Nat → Nat} (hn : 2 ≤ n) (hb : b < n) (h : iv n t tr ls b f H i) : cnt (H (rpa n tr ls b f i)) + i / n = t := by
  have hm := Nat.mod_lt i (show n > 0 by omega)
  have hL := rl_lt (tr := tr) (ls := ls) (f := f) (show 0 < n by omega) hb (i / n)
  have hpl := rpa_lt (tr := tr) (ls := ls) (b := b) (k := i) (f := f) (show 0 < n by omega)
  have hp : rpa n tr ls b f i = if rl n tr ls b f (i / n) + i % n < n then rl n tr ls b f (i / n) + i % n else rl n tr ls b f (i / n) + i % n - n := by
    unfold rpa
    split
    · rw [Nat.mod_eq_of_lt (by assumption)]
    · rw [Nat.mod_eq_sub_mod (by omega), Nat.mod_eq_of_lt (by omega)]
  have h1 := h _ hpl
  rw [if_neg ?_] at h1
  · omega
  · rw [hp]
    unfold ofs
    repeat' split
    all_goals omega
/-- the hands that the row's own cards make -/
theorem iv_row {n t tr ls b : Nat} {f : Nat → Nat} (hn : 2 ≤ n) (hb : b < n) (hf : ∀ i, i < n * t → f i < 16) (hinj : ∀ i j, i < n * t → j < n * t → f i = f j → i = j) : ∀ r i, i + r = n * t → iv n t tr ls b f (fun c => hdm (rpa n tr ls b f) f c r i) i
  | 0, i, h => by
    obtain rfl : i = n * t := by omega
    intro c hc
    rw [Nat.mul_div_cancel_left _ (by omega), Nat.mul_mod_right, if_neg (by omega)]
    show cnt 0 + t + 0 = t
    rw [show cnt 0 = 0 by decide]
    omega
  | r + 1, i, h => by
    refine (iv_step (g := f) (G := fun c => hdm (rpa n tr ls b f) f c r (i + 1)) hn hb (fun j _ => rfl) (fun c hc => ?_)).mpr (iv_row hn hb hf hinj r (i + 1) (by omega))
    show cnt (hdm (rpa n tr ls b f) f c (r + 1) i) = cnt (hdm (rpa n tr ls b f) f c r (i + 1)) + _
    rw [hdm]
    by_cases q : rpa n tr ls b f i = c
    · rw [if_pos q, if_pos q.symm, cnt_or (hf i (by omega))]
      cases z : (hdm (rpa n tr ls b f) f c r (i + 1)).testBit (f i) with
      | false => rfl
      | true =>
        obtain ⟨j, h1, h2, h3, h4⟩ := hdm_bit.mp z
        have := hinj j i (by omega) (by omega) h4
        omega
    · rw [if_neg q, if_neg (fun z => q z.symm), Nat.zero_or]
      rfl
theorem cnt_0 {H : Nat} (hH : H < 65536) (h : 0 < cnt H) : ∃ x, x < 16 ∧ H.testBit x = true := fb_ct_pos.mp h
theorem lwm_ne {fo tr s H : Nat} (hH : H < 65536) (h : 0 < cnt H) : ∃ x, x < 16 ∧ (lwm fo tr s H).testBit x = true := by
  obtain ⟨x, hx, hb⟩ := cnt_0 hH h
  have hne : H ≠ 0 := by
    rintro rfl
    rw [Nat.zero_testBit] at hb
    cases hb
  have ex : ∀ A, A < 65536 → A ≠ 0 → ∃ x, x < 16 ∧ A.testBit x = true := by
    intro A hA hA0
    apply Classical.byContradiction
    intro q
    apply hA0
    apply Nat.eq_of_testBit_eq
    intro y
    rw [Nat.zero_testBit]
    by_cases hy : y < 16
    · cases z : A.testBit y with
      | false => rfl
      | true => exact absurd ⟨y, hy, z⟩ q
    · exact bit_high (a := A) (k := 16) (by omega) (by omega)
  refine ex _ (lwm_lt hH) ?_
  unfold lwm
  split
  · exact hne
  · split
    · assumption
    · split
      · rename_i z
        exact z.2.2
      · exact hne
