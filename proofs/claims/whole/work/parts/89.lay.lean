/-! SEARCH: the class goes over the lines -/
theorem ob {α β : Type} {X : Option α} {K : α → Option β} {Q : α → Prop} {P : β → Prop} (h1 : ∃ a, X = some a ∧ Q a) (h2 : ∀ a, Q a → ∃ b, K a = some b ∧ P b) : ∃ b, X.bind K = some b ∧ P b := by
  obtain ⟨a, e, q⟩ := h1
  obtain ⟨b, f, p⟩ := h2 a q
  exact ⟨b, by rw [e]; exact f, p⟩
def Pla (p i : Nat) : Prop := (p = 51 ∧ 9 ≤ i ∧ i ≤ 16 ∧ i ≠ 10) ∨ p = 64 ∨ p = 67 ∨ p = 69
def Pre (p i : Nat) : Prop := (p = 51 ∧ 11 ≤ i ∧ i ≤ 16) ∨ p = 69
def Kl (m m2 : rn_Mem) : Prop := (∀ p i, ¬ Pla p i → m2.1 p i = m.1 p i) ∧ ∀ p, p ≠ 51 → m2.2 p = m.2 p
def Kv (m m2 : rn_Mem) : Prop := (∀ p i, ¬ Pre p i → m2.1 p i = m.1 p i) ∧ ∀ p, p ≠ 51 → m2.2 p = m.2 p
theorem Kl.rf {m : rn_Mem} : Kl m m := ⟨fun _ _ _ => rfl, fun _ _ => rfl⟩
theorem Kl.tr {m m1 m2 : rn_Mem} (h : Kl m m1) (h2 : Kl m1 m2) : Kl m m2 := ⟨fun p i hp => (h2.1 p i hp).trans (h.1 p i hp), fun p hp => (h2.2 p hp).trans (h.2 p hp)⟩
theorem Kl.sti {m m1 : rn_Mem} {p i : Nat} {x : Int32} (h : Kl m m1) (hp : Pla p i) : Kl m (rm_i m1 p i x) := by
  refine ⟨fun q j hq => ?_, h.2⟩
  rw [mi_get, if_neg, h.1 q j hq]
  rintro ⟨rfl, rfl⟩
  exact hq hp
theorem WMs.kl {S F0 : Nat → Nat} {Y : Nat → Nat → Nat} {Z : Nat → Nat → Nat → Nat} {m m2 : rn_Mem} (hW : WMs S F0 Y Z m) (h : Kl m m2) : WMs S F0 Y Z m2 := by
  obtain ⟨h1, h2, h3, h4, h5, h6, h7⟩ := hW
  have e : ∀ p, p ≠ 51 → p ≠ 64 → p ≠ 67 → p ≠ 69 → m2.1 p = m.1 p := fun p a b c d => by
    funext i
    exact h.1 p i (by unfold Pla; omega)
  refine ⟨by rw [e 52 (by omega) (by omega) (by omega) (by omega)]; exact h1, by rw [e 52 (by omega) (by omega) (by omega) (by omega)]; exact h2, by rw [e 52 (by omega) (by omega) (by omega) (by omega)]; exact h3, by rw [e 52 (by omega) (by omega) (by omega) (by omega)]; exact h4, fun c hc => by rw [e 63 (by omega) (by omega) (by omega) (by omega)]; exact h5 c hc, ?_, fun u hu => ?_⟩
  · unfold CLm at *
    rw [e 57 (by omega) (by omega) (by omega) (by omega), e (57 + 1) (by omega) (by omega) (by omega) (by omega), e (57 + 2) (by omega) (by omega) (by omega) (by omega), e (57 + 3) (by omega) (by omega) (by omega) (by omega), e (57 + 4) (by omega) (by omega) (by omega) (by omega)]
    exact h6
  · rw [e (70 + 8 * u) (by omega) (by omega) (by omega) (by omega), e (70 + 8 * u + 1) (by omega) (by omega) (by omega) (by omega), e (70 + 8 * u + 2) (by omega) (by omega) (by omega) (by omega), e (70 + 8 * u + 3) (by omega) (by omega) (by omega) (by omega), e (70 + 8 * u + 4) (by omega) (by omega) (by omega) (by omega), e (70 + 8 * u + 5) (by omega) (by omega) (by omega) (by omega), e (70 + 8 * u + 7) (by omega) (by omega) (by omega) (by omega), h.2 (70 + 8 * u + 6) (by omega)]
    exact h7 u hu
def ST (S F0 : Nat → Nat) (Y : Nat → Nat → Nat) (w av : Nat → Nat) (k : Nat) (m : rn_Mem) : Prop := (∀ c, c < S 1 → m.1 64 c = nI (lfk S w k c)) ∧ m.1 51 9 = nI (laG S F0 Y w (S 2 - k)) ∧ ∀ j, k ≤ j → j < S 2 → m.1 67 j = nI (24 * nnk S F0 w j + av j)
theorem mayLead_sp {S : Nat → Nat} {k ld need lft nf : Nat} {m : rn_Mem} (hk : k < 4) (hl : ld < 4) (hS6 : S 6 ≤ 1) (hf : lft < 100) (h6 : m.1 52 6 = nI (S 6)) (h8 : m.1 52 8 = cT (S 8)) (h8v : S 8 ≤ 4) (hneed : need ≤ 4) (h64 : m.1 64 ld = nI lft) : se_mayLead nf (nI k) (nI ld) (cT need) m = some (if mlk S k ld need lft = true then 1 else 0, m) := by
  have i1 : nI k = 0 ↔ k = 0 := by rw [k0, nI_eq (by omega) (by omega)]
  have i2 : nI (S 6) = 1 ↔ S 6 = 1 := by rw [k1, nI_eq (by omega) (by omega)]
  have i3 : (0 : Int32) < nI lft ↔ 0 < lft := by rw [k0, nI_ltI (by omega) (by omega)]
  have i4 : cT (S 8) < 0 ↔ S 8 = 4 := by rw [cT_lt]; omega
  have i5 : cT need < 0 ↔ need = 4 := by rw [cT_lt]; omega
  have hin : rn_in (nI ld) 4 = true := (in_n (by omega)).mpr hl
  unfold se_mayLead mlk
  rw [h6, h8]
  simp only [nI_n (show ld < 2 ^ 31 by omega), h64, i1, i2, i3, i4, i5, eq_nc hl, if_pos hin]
  by_cases z1 : k = 0
  · by_cases z2 : S 8 = 4
    · by_cases z3 : S 6 = 1
      · by_cases z4 : need = 4
        · simp [z1, z2, z3, z4]
        · by_cases z5 : ld = need
          · simp [z1, z2, z3, z5]
          · simp [z1, z2, z3, z4, z5]
      · simp [z1, z2, z3]
    · by_cases z6 : ld = S 8
      · by_cases z3 : S 6 = 1
        · by_cases z4 : need = 4
          · simp [z1, z6, z3, z4]
          · by_cases z5 : ld = need
            · simp only [z1, if_true, if_neg z2, if_pos z6, if_pos z3, if_neg z4, if_pos z5]
              simp [z6]
              omega
            · simp only [z1, if_true, if_neg z2, if_pos z6, if_pos z3, if_neg z4, if_neg z5]
              simp [z4, z5]
        · simp only [z1, if_true, if_neg z2, if_pos z6, if_neg z3]
          simp [z6]
      · simp [z1, z2, z6]
  · by_cases z3 : S 6 = 1
    · by_cases z4 : need = 4
      · simp [z1, z3, z4]
      · by_cases z5 : ld = need
        · simp [z1, z3, z5]
        · simp [z1, z3, z4, z5]
    · by_cases z7 : 0 < lft
      · simp [z1, z3, z7]
      · simp [z1, z3, z7]
theorem nxn_lt {S : Nat → Nat} {ld : Nat} (hn : 2 ≤ S 1) (h : ld < S 1) : nxn S ld < S 1 := by
  unfold nxn
  split
  · exact h
  · exact Nat.mod_lt _ (by omega)
/-- how much it is to drop some clues -/
def rk (b : Nat) : Nat := 64 * cnt b + b
theorem rankOf_sp {b nf : Nat} {m : rn_Mem} (h : b < 64) : se_rankOf nf (nI b) m = some (nI (rk b), m) := by
  unfold se_rankOf
  rw [bitCount_pc, pc64 b h]
  simp only [Option.bind_some]
  rw [k64, pk_mul, nI_add]
  rfl
/-- a line's price by the aim -/
def prG (S F0 : Nat → Nat) (Y : Nat → Nat → Nat) (Z : Nat → Nat → Nat → Nat) (aim : Nat) (w av : Nat → Nat) (r : Nat) : Nat := if aim = 1 then rk (bkG S F0 Y Z w av r) else nbG S F0 Z w av r
theorem prG_1 {S F0 : Nat → Nat} {Y : Nat → Nat → Nat} {Z : Nat → Nat → Nat → Nat} {w av : Nat → Nat} {r : Nat} : prG S F0 Y Z 1 w av r = rk (bkG S F0 Y Z w av r) := if_pos rfl
theorem prG_2 {S F0 : Nat → Nat} {Y : Nat → Nat → Nat} {Z : Nat → Nat → Nat → Nat} {w av : Nat → Nat} {r : Nat} : prG S F0 Y Z 2 w av r = nbG S F0 Z w av r := if_neg (by decide)
theorem price_sp {S F0 : Nat → Nat} {Y : Nat → Nat → Nat} {Z : Nat → Nat → Nat → Nat} {w av : Nat → Nat} {aim r nf : Nat} {m : rn_Mem} (ha : aim ≤ 2) (h10 : m.1 51 10 = nI aim) (hb : bkG S F0 Y Z w av r < 64) : (if m.1 51 10 = 1 then (se_rankOf nf (nI (bkG S F0 Y Z w av r)) m).bind fun (r28, m27) => some (r28, m27) else some (nI (nbG S F0 Z w av r), m)) = some (nI (prG S F0 Y Z aim w av r), m) := by
  unfold prG
  rw [h10]
  by_cases z : aim = 1
  · rw [if_pos (by rw [z]; rfl), if_pos z, rankOf_sp hb]
    rfl
  · rw [if_neg (by rw [k1, nI_eq (by omega) (by omega)]; exact z), if_neg z]
/-- what an aim must keep -/
def AI {V : Type} (S F0 : Nat → Nat) (Y : Nat → Nat → Nat) (Z : Nat → Nat → Nat → Nat) (aim : Nat) (Inv : rn_Mem → V → Prop) (add : V → (Nat → Nat) → (Nat → Nat) → V) : Prop :=
  aim ≤ 2 ∧
  (∀ (m m' : rn_Mem) (v : V), Inv m v → (∀ i, i ≠ 9 → m'.1 51 i = m.1 51 i) → m'.1 69 = m.1 69 → m'.2 51 = m.2 51 → Inv m' v) ∧
  (∀ (m : rn_Mem) (v : V), Inv m v → m.1 51 10 = nI aim) ∧
  (∀ (nf r : Nat) (w av : Nat → Nat) (v : V) (m : rn_Mem), 50 < nf → 1 ≤ r → r ≤ S 2 → Inv m v → WMs S F0 Y Z m → VL S F0 Y w av (S 2 - r) → ∃ b : Bool, se_promises nf (nI (prG S F0 Y Z aim w av r)) (nI (byG S F0 Z w av r)) (nI (bkG S F0 Y Z w av r)) m = some (if b = true then 1 else 0, m) ∧ (b = false → ∀ w' av', alk (S 2 - r) w' w → alk (S 2 - r) av' av → add v w' av' = v)) ∧
  (aim ≠ 2 → ∀ (r : Nat) (w av : Nat → Nat) (v : V) (m : rn_Mem), r < S 2 → Inv m v → wrG S F0 Z w av r ≠ 0 → add v w av = v) ∧
  (∀ (nf : Nat) (w av : Nat → Nat) (v : V) (m : rn_Mem), 50 < nf → Inv m v → WMs S F0 Y Z m → VL S F0 Y w av 0 → (∀ j, j < S 2 → m.1 67 j = nI (24 * nnk S F0 w j + av j)) → (aim ≠ 2 → ∀ r, r < S 2 → wrG S F0 Z w av r = 0) → (∃ m', Inv m' v ∧ WMs S F0 Y Z m' ∧ se_promises nf (nI (prG S F0 Y Z aim w av (S 2))) (nI (byG S F0 Z w av (S 2))) (nI (bkG S F0 Y Z w av (S 2))) m' = some (1, m')) → ∃ m2, (if aim = 0 then se_notePlay nf (nI (kz S F0 Z 1 w av 0)) m else se_noteLess nf (nI (prG S F0 Y Z aim w av (S 2))) (nI (byG S F0 Z w av (S 2))) m) = some m2 ∧ Inv m2 (add v w av) ∧ Kv m m2)
def LY {V : Type} (S F0 : Nat → Nat) (Y : Nat → Nat → Nat) (Z : Nat → Nat → Nat → Nat) (aim : Nat) (Inv : rn_Mem → V → Prop) (add : V → (Nat → Nat) → (Nat → Nat) → V) (rec : Int32 → Int32 → Int32 → Int32 → Int32 → Int32 → rn_Mem → Option rn_Mem) (k : Nat) : Prop := ∀ (w av : Nat → Nat) (need : Nat) (v : V) (m : rn_Mem), (need < S 1 ∨ need = 4) → WMs S F0 Y Z m → ST S F0 Y w av k m → Inv m v → VL S F0 Y w av k → (aim ≠ 2 → ∀ r, r < S 2 - k → wrG S F0 Z w av r = 0) → ∃ m2, rec (nI (k - 1)) (cT need) (nI (suG S F0 Z w av (S 2 - k))) (nI (nbG S F0 Z w av (S 2 - k))) (nI (byG S F0 Z w av (S 2 - k))) (nI (bkG S F0 Y Z w av (S 2 - k))) m = some m2 ∧ Inv m2 (FO S F0 Y Z add k v need w av) ∧ ST S F0 Y w av k m2 ∧ Kl m m2
set_option maxHeartbeats 8000000 in
theorem l17_sp {V : Type} {S F0 : Nat → Nat} {Y : Nat → Nat → Nat} {Z : Nat → Nat → Nat → Nat} {aim : Nat} {Inv : rn_Mem → V → Prop} {add : V → (Nat → Nat) → (Nat → Nat) → V} (A : AI S F0 Y Z aim Inv add) (wg : WG S) (wc : WC S) (hY : YZ S F0 Y Z) {rec : Int32 → Int32 → Int32 → Int32 → Int32 → Int32 → rn_Mem → Option rn_Mem} {k c need : Nat} {w av : Nat → Nat} (hk : k < S 2) (hc : c < S 1) (hleft : 0 < lfk S w (k + 1) c) (hneed : need < S 1 ∨ need = 4) (hVL : VL S F0 Y w av (k + 1)) (hwp : aim ≠ 2 → ∀ r, r < S 2 - (k + 1) → wrG S F0 Z w av r = 0) (hrec : k ≠ 0 → LY S F0 Y Z aim Inv add rec k) : ∀ (s a nf2 : Nat) (v : V) (m : rn_Mem), a + s = Y 2 (nnk S F0 (fu w k c) k) → s + 100 < nf2 → WMs S F0 Y Z m → (∀ d, d < S 1 → m.1 64 d = nI (lfk S (fu w k c) k d)) → m.1 51 9 = nI (laG S F0 Y w (S 2 - (k + 1))) → (∀ j, k + 1 ≤ j → j < S 2 → m.1 67 j = nI (24 * nnk S F0 w j + av j)) → Inv m v → ∃ m2, se_layTrick_l17 rec (nI k) (nI (nnk S F0 (fu w k c) k)) (cT need) (nI (suG S F0 Z w av (S 2 - (k + 1)))) (nI (nbG S F0 Z w av (S 2 - (k + 1)))) (nI (byG S F0 Z w av (S 2 - (k + 1)))) (nI (bkG S F0 Y Z w av (S 2 - (k + 1)))) (70 + 8 * nnk S F0 (fu w k c) k) nf2 (nI a) m = some m2 ∧ (∀ d, d < S 1 → m2.1 64 d = nI (lfk S (fu w k c) k d)) ∧ m2.1 51 9 = nI (laG S F0 Y w (S 2 - (k + 1))) ∧ (∀ j, k + 1 ≤ j → j < S 2 → m2.1 67 j = nI (24 * nnk S F0 w j + av j)) ∧ Inv m2 (rfold (fun v a => if mlk S k (Z 1 (nnk S F0 (fu w k c) k) a) need (lfk S (fu w k c) k (Z 1 (nnk S F0 (fu w k c) k) a)) = true then FO S F0 Y Z add k v (nxn S (Z 1 (nnk S F0 (fu w k c) k) a)) (fu w k c) (fu av k a) else v) s a v) ∧ Kl m m2 := by
  obtain ⟨A0, A1, A2, A3, A4, A5⟩ := A
  obtain ⟨w1, w2, w3, w4, w5, w6, w7, w8, w9, w10, w11, w12⟩ := wg
  have wg : WG S := ⟨w1, w2, w3, w4, w5, w6, w7, w8, w9, w10, w11, w12⟩
  have hn1 := w1
  have h6c := wc.1
  have hlle := lfk_le (S := S) (w := w) (k := k + 1) (c := c)
  have hnn : nnk S F0 (fu w k c) k < S 2 := by
    rw [nnk_f]
    have := hY.1 c hc
    omega
  obtain ⟨y0, y1, y2, y3⟩ := hY.2.2.1 _ hnn
  generalize hr : S 2 - (k + 1) = r at *
  have hr1 : S 2 - (r + 1) = k := by omega
  have hb := VL_b hY (w := w) (av := av) (r := r) (by omega) (by rw [show S 2 - r = k + 1 by omega]; exact hVL)
  obtain ⟨b1, b2, b3, b4, b5⟩ := hb
  have b5 := b5 h6c
  have alw : ∀ x, alk (S 2 - r) (fu w k x) w := fun x j hj => fu_n (by omega)
  have ala : ∀ x, alk (S 2 - r) (fu av k x) av := fun x j hj => fu_n (by omega)
  have hla : laG S F0 Y w r ||| Y 1 (nnk S F0 (fu w k c) k) = laG S F0 Y (fu w k c) (r + 1) := by
    rw [laG, hr1, laG_c (by omega) (alw c)]
  have hdis : ∀ x, (laG S F0 Y w r).testBit x = true → (Y 1 (nnk S F0 (fu w k c) k)).testBit x = false := by
    intro x hx
    obtain ⟨j, j1, j2, j3⟩ := (laG_bit (by omega)).mp hx
    have hVL2 : VL S F0 (fun _ _ => 1) (fu w k c) (fun _ => 0) k := by
      intro i i1 i2
      by_cases z : i = k
      · rw [z, fu_s, lfk_c (w := fu w k c) (u := w) fun i hi => fu_n (by omega)]; exact ⟨hc, hleft, Nat.zero_lt_one⟩
      · rw [fu_n z, lfk_c (w := fu w k c) (u := w) fun i hi => fu_n (by omega)]
        obtain ⟨u1, u2, _⟩ := hVL i (by omega) i2
        exact ⟨u1, u2, Nat.zero_lt_one⟩
    have hne : nnk S F0 (fu w k c) k ≠ nnk S F0 (fu w k c) j := by
      obtain ⟨a1, a2, _⟩ := hVL2 k (Nat.le_refl k) (by omega)
      obtain ⟨c1, c2, _⟩ := hVL2 j (by omega) j2
      have d1 := lfk_le (S := S) (w := fu w k c) (k := k + 1) (c := fu w k c k)
      have d2 := lfk_le (S := S) (w := fu w k c) (k := j + 1) (c := fu w k c j)
      unfold nnk ixk
      by_cases q : fu w k c k = fu w k c j
      · rw [q] at a2 ⊢
        have e1 := lfk_s (S := S) (w := fu w k c) (k := j) j2 (fu w k c j)
        rw [if_pos rfl] at e1
        have e2 := lfk_m (S := S) (w := fu w k c) (c := fu w k c j) (d := j - (k + 1)) (k := k + 1) (by omega)
        rw [show k + 1 + (j - (k + 1)) = j by omega] at e2
        omega
      · rcases Nat.lt_or_gt_of_ne q with z | z
        · have := hY.2.1 _ _ z c1
          omega
        · have := hY.2.1 _ _ z a1
          omega
    have hj : nnk S F0 w j = nnk S F0 (fu w k c) j := (nnk_c (w := fu w k c) (u := w) fun i hi => fu_n (by omega)).symm
    rw [hj] at j3
    refine hY.2.2.2 (nnk S F0 (fu w k c) j) (nnk S F0 (fu w k c) k) x ?_ hnn (fun z => hne z.symm) j3
    rw [← hj]
    exact VL_nn hY hVL (by omega) j2
  intro s
  induction s with
  | zero =>
    intro a nf2 v m e hnf hW h64 h9 h67 hI
    obtain ⟨nf2, rfl⟩ : ∃ e, nf2 = e + 1 := ⟨nf2 - 1, by omega⟩
    refine ⟨m, ?_, h64, h9, h67, hI, Kl.rf⟩
    rw [se_layTrick_l17, (hW.2.2.2.2.2.2 _ hnn).2.2.1, if_neg (by rw [nI_ltI (by omega) (by omega)]; omega)]
  | succ s ih =>
    intro a nf2 v m e hnf hW h64 h9 h67 hI
    obtain ⟨nf2, rfl⟩ : ∃ e, nf2 = e + 1 := ⟨nf2 - 1, by omega⟩
    obtain ⟨m0, m1, m2y, mz⟩ := hW.2.2.2.2.2.2 _ hnn
    obtain ⟨z1, z2, z3, z4, z5, z7⟩ := y3 a (by omega)
    obtain ⟨q1, q2, q3, q4, q5, q6, q7⟩ := mz a (by omega)
    have q1m := m1
    have hz1n := z1
    have hcl := hW.2.2.2.2.2.1
    have ha24 : rn_in (nI a) 24 = true := (in_n (by omega)).mpr (by omega)
    have hst : (∀ d, d < S 1 → m.1 64 d = nI (lfk S (fu w k c) k d)) ∧ m.1 51 9 = nI (laG S F0 Y w r) ∧ (∀ j, k + 1 ≤ j → j < S 2 → m.1 67 j = nI (24 * nnk S F0 w j + av j)) := ⟨h64, h9, h67⟩
    have hVL1 : VL S F0 Y (fu w k c) (fu av k a) k := by
      intro i i1 i2
      by_cases z : i = k
      · rw [z, fu_s, fu_s, lfk_c (w := fu w k c) (u := w) fun i hi => fu_n (by omega)]; exact ⟨hc, hleft, by omega⟩
      · rw [fu_n z, fu_n z, lfk_c (w := fu w k c) (u := w) fun i hi => fu_n (by omega), nnk_c (w := fu w k c) (u := w) fun i hi => fu_n (by omega)]
        exact hVL i (by omega) i2
    have hsuc : suG S F0 Z (fu w k c) (fu av k a) r = suG S F0 Z w av r := suG_c (by omega) (alw c) (ala a)
    have hkz : ∀ f, kz S F0 Z f (fu w k c) (fu av k a) (S 2 - (r + 1)) = Z f (nnk S F0 (fu w k c) k) a := fun f => by
      unfold kz; rw [hr1, fu_s]
    have hsu : suG S F0 Z w av r ||| Z 3 (nnk S F0 (fu w k c) k) a = suG S F0 Z (fu w k c) (fu av k a) (r + 1) := by rw [suG, hsuc, hkz]
    have hwr : cin (suG S F0 Z w av r &&& Z 2 (nnk S F0 (fu w k c) k) a) = wrG S F0 Z (fu w k c) (fu av k a) r := by unfold wrG; rw [hsuc, hkz]
    have hsub : suG S F0 Z (fu w k c) (fu av k a) r &&& kz S F0 Z 2 (fu w k c) (fu av k a) (S 2 - (r + 1)) < 65536 := by rw [hsuc]; exact Nat.lt_of_le_of_lt Nat.and_le_left b1
    have hnb : nbG S F0 Z w av r + cnt (wrG S F0 Z (fu w k c) (fu av k a) r) = nbG S F0 Z (fu w k c) (fu av k a) (r + 1) := by rw [nbG, nbG_c (by omega) (alw c) (ala a)]
    have hby : byG S F0 Z w av r ||| wrG S F0 Z (fu w k c) (fu av k a) r = byG S F0 Z (fu w k c) (fu av k a) (r + 1) := by rw [byG, byG_c (by omega) (alw c) (ala a)]
    have hag : bm (agB S k (Z 1 (nnk S F0 (fu w k c) k) a) (Y 1 (nnk S F0 (fu w k c) k)) (laG S F0 Y w r) (suG S F0 Z (fu w k c) (fu av k a) (r + 1))) (S 10) = agG S F0 Y Z (fu w k c) (fu av k a) r := by
      unfold agG
      rw [hkz, hr1, laG_c (by omega) (alw c)]
    have hbk : (bkG S F0 Y Z w av r ||| Z 4 (nnk S F0 (fu w k c) k) a) ||| agG S F0 Y Z (fu w k c) (fu av k a) r = bkG S F0 Y Z (fu w k c) (fu av k a) (r + 1) := by rw [bkG, bkG_c (by omega) (alw c) (ala a), hkz]
    have hb1 : suG S F0 Z (fu w k c) (fu av k a) (r + 1) < 65536 := by rw [← hsu]; exact or_lt (k := 16) b1 z3
    have hbb : bkG S F0 Y Z (fu w k c) (fu av k a) (r + 1) < 64 := (VL_b hY (by omega) (by rw [hr1]; exact hVL1)).2.2.2.2 h6c
    have hlfb : lfk S (fu w k c) k (Z 1 (nnk S F0 (fu w k c) k) a) < 100 := by
      have h1 := lfk_le (S := S) (w := fu w k c) (k := k) (c := Z 1 (nnk S F0 (fu w k c) k) a)
      have h2 := hY.1 _ z1
      omega
    have hwpx : wrG S F0 Z (fu w k c) (fu av k a) r = 0 ∨ aim = 2 → aim ≠ 2 → ∀ r', r' < r + 1 → wrG S F0 Z (fu w k c) (fu av k a) r' = 0 := by
      intro h1 h2 r' h3
      by_cases z : r' = r
      · rw [z]; exact h1.elim id fun y => absurd y h2
      · rw [wrG_c (by omega) ((alw c).mono (by omega)) ((ala a).mono (by omega))]
        exact hwp h2 r' (by omega)
    rw [se_layTrick_l17, m2y, if_pos (by rw [nI_ltI (by omega) (by omega)]; omega)]
    simp only [Option.bind_some, if_pos ha24]
    rw [nI_n (by omega), q1, q2, fa_and, chairsIn_sp (Nat.lt_of_le_of_lt Nat.and_le_left b1), hwr]
    simp only [Option.bind_some]
    rw [mayLead_sp (S := S) (by omega) (by omega) (by omega) hlfb hW.2.2.1 hW.2.2.2.1 (by omega) (by omega) (h64 _ z1)]
    simp only [Option.bind_some]
    refine ob (Q := fun mq => ((∀ d, d < S 1 → mq.1 64 d = nI (lfk S (fu w k c) k d)) ∧ mq.1 51 9 = nI (laG S F0 Y w r) ∧ (∀ j, k + 1 ≤ j → j < S 2 → mq.1 67 j = nI (24 * nnk S F0 w j + av j))) ∧ Inv mq (if mlk S k (Z 1 (nnk S F0 (fu w k c) k) a) need (lfk S (fu w k c) k (Z 1 (nnk S F0 (fu w k c) k) a)) = true then FO S F0 Y Z add k v (nxn S (Z 1 (nnk S F0 (fu w k c) k) a)) (fu w k c) (fu av k a) else v) ∧ Kl m mq ∧ WMs S F0 Y Z mq) ?_ ?_
    case refine_2 =>
      rintro mq ⟨⟨u1, u2, u3⟩, u4, u5, u6⟩
      obtain ⟨mr, v1, v2, v3, v4, v5, v6⟩ := ih (a + 1) nf2 _ mq (by omega) (by omega) u6 u1 u2 u3 u4
      rw [nI_1]
      exact ⟨mr, v1, v2, v3, v4, by rw [rfold]; exact v5, u5.tr v6⟩
    by_cases hml : mlk S k (Z 1 (nnk S F0 (fu w k c) k) a) need (lfk S (fu w k c) k (Z 1 (nnk S F0 (fu w k c) k) a)) = true
    case neg =>
      refine ⟨m, ?_, hst, ?_, Kl.rf, hW⟩
      · simp only [if_neg hml, if_true]
      · rw [if_neg hml]; exact hI
    have hG : (if mlk S k (Z 1 (nnk S F0 (fu w k c) k) a) need (lfk S (fu w k c) k (Z 1 (nnk S F0 (fu w k c) k) a)) = true then FO S F0 Y Z add k v (nxn S (Z 1 (nnk S F0 (fu w k c) k) a)) (fu w k c) (fu av k a) else v) = FO S F0 Y Z add k v (nxn S (Z 1 (nnk S F0 (fu w k c) k) a)) (fu w k c) (fu av k a) := if_pos hml
    rw [if_pos hml, if_neg (show ¬ (1 : Int32) = 0 by decide)]
    have hwlt := cin_lt (suG S F0 Z (fu w k c) (fu av k a) r &&& kz S F0 Z 2 (fu w k c) (fu av k a) (S 2 - (r + 1)))
    have hwlt : wrG S F0 Z (fu w k c) (fu av k a) r < 65536 := hwlt
    by_cases hw0 : wrG S F0 Z (fu w k c) (fu av k a) r = 0
    · have hwp' := hwpx (Or.inl hw0)
      rw [if_pos (show nI (wrG S F0 Z (fu w k c) (fu av k a) r) = 0 by rw [hw0]; rfl)]
      have e1 : ja_bitCount nf2 (nI (wrG S F0 Z (fu w k c) (fu av k a) r)) m = some (nI (cnt (wrG S F0 Z (fu w k c) (fu av k a) r)), m) := by
        rw [bitCount_pc]
        unfold wrG
        rw [pc_cin hsub]
      rw [e1]
      simp only [Option.bind_some, if_pos ha24, q3, q4, fa_or, nI_add, hsu, hnb, hby]
      rw [h9, q1m, againstTrick_sp wg wc hcl (by omega) (by omega) (by omega) (by omega) hb1 (by omega)]
      simp only [Option.bind_some, hag, fa_or, hbk]
      rw [price_sp A0 (A2 m v hI) hbb]
      simp only [Option.bind_some]
      obtain ⟨b, p1, p2⟩ := A3 nf2 (r + 1) (fu w k c) (fu av k a) v m (by omega) (by omega) (by omega) hI hW (by rw [hr1]; exact hVL1)
      rw [p1]
      simp only [Option.bind_some]
      cases b with
      | false =>
        refine ⟨m, ?_, hst, ?_, Kl.rf, hW⟩
        · rfl
        · have hid : FO S F0 Y Z add k v (nxn S (Z 1 (nnk S F0 (fu w k c) k) a)) (fu w k c) (fu av k a) = v := FO_id fun w' av' y1 y2 => p2 rfl w' av' (by rw [hr1]; exact y1) (by rw [hr1]; exact y2)
          rw [hG, hid]; exact hI
      | true =>
        rw [if_neg (show ¬ (if true = true then (1 : Int32) else 0) = 0 by decide), if_pos ((in_n (by omega)).mpr (by omega)), nI_n (by omega), k24, pk_mul, nI_add, Nat.mul_comm]
        have K30 : Kl m (rm_i m 67 k (nI (24 * nnk S F0 (fu w k c) k + a))) := Kl.rf.sti (by unfold Pla; omega)
        have I30 : Inv (rm_i m 67 k (nI (24 * nnk S F0 (fu w k c) k + a))) v := A1 _ _ _ hI (fun i _ => by rw [mi_get, if_neg (by omega)]) (by funext j; rw [mi_get, if_neg (by omega)]) rfl
        have W30 := hW.kl K30
        have path1 : ∀ j, k ≤ j → j < S 2 → (rm_i m 67 k (nI (24 * nnk S F0 (fu w k c) k + a))).1 67 j = nI (24 * nnk S F0 (fu w k c) j + fu av k a j) := by
          intro j j1 j2
          rw [mi_get]
          by_cases z : j = k
          · rw [if_pos ⟨rfl, z⟩, z, fu_s]
          · rw [if_neg (fun y => z y.2), hst.2.2 j (by omega) j2, fu_n z, nnk_c (w := fu w k c) (u := w) fun i hi => fu_n (by omega)]
        have a10 : (rm_i m 67 k (nI (24 * nnk S F0 (fu w k c) k + a))).1 51 10 = nI aim := A2 _ _ I30
        by_cases hk0 : k = 0
        · have hkI : nI k = 0 := by rw [hk0]; rfl
          simp only [if_pos hkI]
          have hrt : r + 1 = S 2 := by omega
          obtain ⟨m2, l1, l2, l3⟩ := A5 nf2 (fu w k c) (fu av k a) v (rm_i m 67 k (nI (24 * nnk S F0 (fu w k c) k + a))) (by omega) I30 W30 (by rw [hk0] at hVL1 ⊢; exact hVL1) (fun j j2 => path1 j (by omega) j2) (by rw [← hrt]; exact hwp') ⟨m, hI, hW, by rw [← hrt]; exact p1⟩
          have hz1 : Z 1 (nnk S F0 (fu w k c) k) a = kz S F0 Z 1 (fu w k c) (fu av k a) 0 := by
            unfold kz; rw [hk0, fu_s]
          have K2 : Kl m m2 := K30.tr ⟨fun p i hp => l3.1 p i (fun z => hp (by unfold Pre at z; unfold Pla; omega)), l3.2⟩
          refine ⟨m2, ?_, ?_, ?_, K2, hW.kl K2⟩
          · by_cases ha0 : aim = 0
            · rw [if_pos ha0] at l1
              rw [a10, if_pos (by rw [ha0]; rfl), hz1, l1]
              rfl
            · rw [if_neg ha0] at l1
              rw [a10, if_neg (nI_ne0 (by omega) (by omega)), hrt, l1]
              rfl
          · refine ⟨fun d hd => ?_, ?_, fun j j1 j2 => ?_⟩
            · rw [l3.1 64 d (by unfold Pre; omega), mi_get, if_neg (by omega)]; exact hst.1 d hd
            · rw [l3.1 51 9 (by unfold Pre; omega), mi_get, if_neg (by omega)]; exact hst.2.1
            · rw [l3.1 67 j (by unfold Pre; omega), mi_get, if_neg (by omega)]; exact hst.2.2 j j1 j2
          · have hfo : FO S F0 Y Z add k v (nxn S (Z 1 (nnk S F0 (fu w k c) k) a)) (fu w k c) (fu av k a) = add v (fu w k c) (fu av k a) := by
              rw [hk0]; rfl
            rw [hG, hfo]; exact l2
        · have hkI : ¬ nI k = 0 := nI_ne0 (by omega) (by omega)
          simp only [if_neg hkI]
          have e30 : (rm_i m 67 k (nI (24 * nnk S F0 (fu w k c) k + a))).1 51 9 = nI (laG S F0 Y w r) := by
            rw [mi_get, if_neg (by omega)]; exact hst.2.1
          have e30b : (rm_i m 67 k (nI (24 * nnk S F0 (fu w k c) k + a))).1 (70 + 8 * nnk S F0 (fu w k c) k) 1 = nI (Y 1 (nnk S F0 (fu w k c) k)) := by
            rw [mi_get, if_neg (by omega)]; exact q1m
          rw [e30, e30b, fa_or, hla]
          generalize hm39 : rm_i (rm_i m 67 k (nI (24 * nnk S F0 (fu w k c) k + a))) 51 9 (nI (laG S F0 Y (fu w k c) (r + 1))) = m39
          have K39 : Kl m m39 := by rw [← hm39]; exact K30.sti (by unfold Pla; omega)
          have W39 := hW.kl K39
          have I39 : Inv m39 v := by
            refine A1 _ _ _ I30 (fun i hi => ?_) ?_ ?_
            · rw [← hm39, mi_get, if_neg (fun z => hi z.2)]
            · rw [← hm39]; funext j; rw [mi_get, if_neg (by omega)]
            · rw [← hm39]; rfl
          have S39 : ST S F0 Y (fu w k c) (fu av k a) k m39 := by
            refine ⟨fun d hd => ?_, ?_, fun j j1 j2 => ?_⟩
            · rw [← hm39, mi_get, if_neg (by omega), mi_get, if_neg (by omega)]; exact hst.1 d hd
            · rw [← hm39, mi_get, if_pos ⟨rfl, rfl⟩, show S 2 - k = r + 1 by omega]
            · rw [← hm39, mi_get, if_neg (by omega)]; exact path1 j j1 j2
          have hneed : (if m39.1 52 6 = 0 then some (nI (Z 1 (nnk S F0 (fu w k c) k) a), m39) else (ga_previous nf2 52 (nI (Z 1 (nnk S F0 (fu w k c) k) a)) m39).bind fun (r57, m56) => some (r57, m56)) = some (cT (nxn S (Z 1 (nnk S F0 (fu w k c) k) a)), m39) := by
            rw [W39.2.2.1]
            unfold nxn
            by_cases z6 : S 6 = 0
            · rw [if_pos (by rw [z6]; rfl), if_pos z6]
              unfold cT
              rw [if_pos (by omega)]
            · rw [if_neg (nI_ne0 (by omega) (by omega)), if_neg z6]
              unfold ga_previous
              rw [W39.1, k0]
              have hmod := Nat.mod_lt (Z 1 (nnk S F0 (fu w k c) k) a + S 1 - 1) (show S 1 > 0 by omega)
              have ec : cT ((Z 1 (nnk S F0 (fu w k c) k) a + S 1 - 1) % S 1) = nI ((Z 1 (nnk S F0 (fu w k c) k) a + S 1 - 1) % S 1) := by unfold cT; rw [if_pos (by omega)]
              rw [ec]
              by_cases zl : 0 < Z 1 (nnk S F0 (fu w k c) k) a
              · rw [if_pos (by rw [nI_ltI (by omega) (by omega)]; exact zl)]
                simp only [Option.bind_some]
                rw [k1, pk_sub (by omega), show Z 1 (nnk S F0 (fu w k c) k) a + S 1 - 1 = Z 1 (nnk S F0 (fu w k c) k) a - 1 + S 1 by omega, Nat.add_mod_right, Nat.mod_eq_of_lt (by omega)]
              · rw [if_neg (by rw [nI_ltI (by omega) (by omega)]; exact zl)]
                simp only [Option.bind_some]
                rw [k1, pk_sub (by omega), show Z 1 (nnk S F0 (fu w k c) k) a + S 1 - 1 = S 1 - 1 by omega, Nat.mod_eq_of_lt (by omega)]
          rw [hneed]
          simp only [Option.bind_some]
          obtain ⟨m47, g1, g2, g3, g4⟩ := hrec hk0 (fu w k c) (fu av k a) (nxn S (Z 1 (nnk S F0 (fu w k c) k) a)) v m39 (Or.inl (nxn_lt hn1 hz1n)) W39 S39 I39 hVL1 (by rw [show S 2 - k = r + 1 by omega]; exact hwp')
          rw [show nI k - 1 = nI (k - 1) from pk_sub (b := 1) (by omega)]
          rw [show S 2 - k = r + 1 by omega] at g1
          rw [g1]
          simp only [Option.bind_some]
          have e47 : m47.1 51 9 = nI (laG S F0 Y (fu w k c) (r + 1)) := by rw [g3.2.1, show S 2 - k = r + 1 by omega]
          have e47b : m47.1 (70 + 8 * nnk S F0 (fu w k c) k) 1 = nI (Y 1 (nnk S F0 (fu w k c) k)) := ((W39.kl g4).2.2.2.2.2.2 _ hnn).2.1
          rw [e47, e47b, bd_n, ← hla, or_bd hdis]
          have K49 : Kl m (rm_i m47 51 9 (nI (laG S F0 Y w r))) := (K39.tr g4).sti (by unfold Pla; omega)
          refine ⟨_, rfl, ⟨fun d hd => ?_, ?_, fun j j1 j2 => ?_⟩, ?_, K49, hW.kl K49⟩
          · rw [mi_get, if_neg (by omega)]; exact g3.1 d hd
          · rw [mi_get, if_pos ⟨rfl, rfl⟩]
          · rw [mi_get, if_neg (by omega), g3.2.2 j (by omega) j2, fu_n (by omega), nnk_c (w := fu w k c) (u := w) fun i hi => fu_n (by omega)]
          · rw [hG]
            refine A1 _ _ _ g2 (fun i hi => ?_) ?_ rfl
            · rw [mi_get, if_neg (fun z => hi z.2)]
            · funext j; rw [mi_get, if_neg (by omega)]
    · rw [if_neg (show ¬ nI (wrG S F0 Z (fu w k c) (fu av k a) r) = 0 from nI_ne0 (by omega) (by omega)), A2 m v hI]
      by_cases ha2 : aim = 2
      · have hwp' := hwpx (Or.inr ha2)
        rw [if_pos (show nI aim = 2 by rw [ha2]; rfl)]
        have e1 : ja_bitCount nf2 (nI (wrG S F0 Z (fu w k c) (fu av k a) r)) m = some (nI (cnt (wrG S F0 Z (fu w k c) (fu av k a) r)), m) := by
          rw [bitCount_pc]
          unfold wrG
          rw [pc_cin hsub]
        rw [e1]
        simp only [Option.bind_some, if_pos ha24, q3, q4, fa_or, nI_add, hsu, hnb, hby]
        rw [h9, q1m, againstTrick_sp wg wc hcl (by omega) (by omega) (by omega) (by omega) hb1 (by omega)]
        simp only [Option.bind_some, hag, fa_or, hbk]
        rw [price_sp A0 (A2 m v hI) hbb]
        simp only [Option.bind_some]
        obtain ⟨b, p1, p2⟩ := A3 nf2 (r + 1) (fu w k c) (fu av k a) v m (by omega) (by omega) (by omega) hI hW (by rw [hr1]; exact hVL1)
        rw [p1]
        simp only [Option.bind_some]
        cases b with
        | false =>
          refine ⟨m, ?_, hst, ?_, Kl.rf, hW⟩
          · rfl
          · have hid : FO S F0 Y Z add k v (nxn S (Z 1 (nnk S F0 (fu w k c) k) a)) (fu w k c) (fu av k a) = v := FO_id fun w' av' y1 y2 => p2 rfl w' av' (by rw [hr1]; exact y1) (by rw [hr1]; exact y2)
            rw [hG, hid]; exact hI
        | true =>
          rw [if_neg (show ¬ (if true = true then (1 : Int32) else 0) = 0 by decide), if_pos ((in_n (by omega)).mpr (by omega)), nI_n (by omega), k24, pk_mul, nI_add, Nat.mul_comm]
          have K30 : Kl m (rm_i m 67 k (nI (24 * nnk S F0 (fu w k c) k + a))) := Kl.rf.sti (by unfold Pla; omega)
          have I30 : Inv (rm_i m 67 k (nI (24 * nnk S F0 (fu w k c) k + a))) v := A1 _ _ _ hI (fun i _ => by rw [mi_get, if_neg (by omega)]) (by funext j; rw [mi_get, if_neg (by omega)]) rfl
          have W30 := hW.kl K30
          have path1 : ∀ j, k ≤ j → j < S 2 → (rm_i m 67 k (nI (24 * nnk S F0 (fu w k c) k + a))).1 67 j = nI (24 * nnk S F0 (fu w k c) j + fu av k a j) := by
            intro j j1 j2
            rw [mi_get]
            by_cases z : j = k
            · rw [if_pos ⟨rfl, z⟩, z, fu_s]
            · rw [if_neg (fun y => z y.2), hst.2.2 j (by omega) j2, fu_n z, nnk_c (w := fu w k c) (u := w) fun i hi => fu_n (by omega)]
          have a10 : (rm_i m 67 k (nI (24 * nnk S F0 (fu w k c) k + a))).1 51 10 = nI aim := A2 _ _ I30
          by_cases hk0 : k = 0
          · have hkI : nI k = 0 := by rw [hk0]; rfl
            simp only [if_pos hkI]
            have hrt : r + 1 = S 2 := by omega
            obtain ⟨m2, l1, l2, l3⟩ := A5 nf2 (fu w k c) (fu av k a) v (rm_i m 67 k (nI (24 * nnk S F0 (fu w k c) k + a))) (by omega) I30 W30 (by rw [hk0] at hVL1 ⊢; exact hVL1) (fun j j2 => path1 j (by omega) j2) (by rw [← hrt]; exact hwp') ⟨m, hI, hW, by rw [← hrt]; exact p1⟩
            have hz1 : Z 1 (nnk S F0 (fu w k c) k) a = kz S F0 Z 1 (fu w k c) (fu av k a) 0 := by
              unfold kz; rw [hk0, fu_s]
            have K2 : Kl m m2 := K30.tr ⟨fun p i hp => l3.1 p i (fun z => hp (by unfold Pre at z; unfold Pla; omega)), l3.2⟩
            refine ⟨m2, ?_, ?_, ?_, K2, hW.kl K2⟩
            · by_cases ha0 : aim = 0
              · rw [if_pos ha0] at l1
                rw [a10, if_pos (by rw [ha0]; rfl), hz1, l1]
                rfl
              · rw [if_neg ha0] at l1
                rw [a10, if_neg (nI_ne0 (by omega) (by omega)), hrt, l1]
                rfl
            · refine ⟨fun d hd => ?_, ?_, fun j j1 j2 => ?_⟩
              · rw [l3.1 64 d (by unfold Pre; omega), mi_get, if_neg (by omega)]; exact hst.1 d hd
              · rw [l3.1 51 9 (by unfold Pre; omega), mi_get, if_neg (by omega)]; exact hst.2.1
              · rw [l3.1 67 j (by unfold Pre; omega), mi_get, if_neg (by omega)]; exact hst.2.2 j j1 j2
            · have hfo : FO S F0 Y Z add k v (nxn S (Z 1 (nnk S F0 (fu w k c) k) a)) (fu w k c) (fu av k a) = add v (fu w k c) (fu av k a) := by
                rw [hk0]; rfl
              rw [hG, hfo]; exact l2
          · have hkI : ¬ nI k = 0 := nI_ne0 (by omega) (by omega)
            simp only [if_neg hkI]
            have e30 : (rm_i m 67 k (nI (24 * nnk S F0 (fu w k c) k + a))).1 51 9 = nI (laG S F0 Y w r) := by
              rw [mi_get, if_neg (by omega)]; exact hst.2.1
            have e30b : (rm_i m 67 k (nI (24 * nnk S F0 (fu w k c) k + a))).1 (70 + 8 * nnk S F0 (fu w k c) k) 1 = nI (Y 1 (nnk S F0 (fu w k c) k)) := by
              rw [mi_get, if_neg (by omega)]; exact q1m
            rw [e30, e30b, fa_or, hla]
            generalize hm39 : rm_i (rm_i m 67 k (nI (24 * nnk S F0 (fu w k c) k + a))) 51 9 (nI (laG S F0 Y (fu w k c) (r + 1))) = m39
            have K39 : Kl m m39 := by rw [← hm39]; exact K30.sti (by unfold Pla; omega)
            have W39 := hW.kl K39
            have I39 : Inv m39 v := by
              refine A1 _ _ _ I30 (fun i hi => ?_) ?_ ?_
              · rw [← hm39, mi_get, if_neg (fun z => hi z.2)]
              · rw [← hm39]; funext j; rw [mi_get, if_neg (by omega)]
              · rw [← hm39]; rfl
            have S39 : ST S F0 Y (fu w k c) (fu av k a) k m39 := by
              refine ⟨fun d hd => ?_, ?_, fun j j1 j2 => ?_⟩
              · rw [← hm39, mi_get, if_neg (by omega), mi_get, if_neg (by omega)]; exact hst.1 d hd
              · rw [← hm39, mi_get, if_pos ⟨rfl, rfl⟩, show S 2 - k = r + 1 by omega]
              · rw [← hm39, mi_get, if_neg (by omega)]; exact path1 j j1 j2
            have hneed : (if m39.1 52 6 = 0 then some (nI (Z 1 (nnk S F0 (fu w k c) k) a), m39) else (ga_previous nf2 52 (nI (Z 1 (nnk S F0 (fu w k c) k) a)) m39).bind fun (r57, m56) => some (r57, m56)) = some (cT (nxn S (Z 1 (nnk S F0 (fu w k c) k) a)), m39) := by
              rw [W39.2.2.1]
              unfold nxn
              by_cases z6 : S 6 = 0
              · rw [if_pos (by rw [z6]; rfl), if_pos z6]
                unfold cT
                rw [if_pos (by omega)]
              · rw [if_neg (nI_ne0 (by omega) (by omega)), if_neg z6]
                unfold ga_previous
                rw [W39.1, k0]
                have hmod := Nat.mod_lt (Z 1 (nnk S F0 (fu w k c) k) a + S 1 - 1) (show S 1 > 0 by omega)
                have ec : cT ((Z 1 (nnk S F0 (fu w k c) k) a + S 1 - 1) % S 1) = nI ((Z 1 (nnk S F0 (fu w k c) k) a + S 1 - 1) % S 1) := by unfold cT; rw [if_pos (by omega)]
                rw [ec]
                by_cases zl : 0 < Z 1 (nnk S F0 (fu w k c) k) a
                · rw [if_pos (by rw [nI_ltI (by omega) (by omega)]; exact zl)]
                  simp only [Option.bind_some]
                  rw [k1, pk_sub (by omega), show Z 1 (nnk S F0 (fu w k c) k) a + S 1 - 1 = Z 1 (nnk S F0 (fu w k c) k) a - 1 + S 1 by omega, Nat.add_mod_right, Nat.mod_eq_of_lt (by omega)]
                · rw [if_neg (by rw [nI_ltI (by omega) (by omega)]; exact zl)]
                  simp only [Option.bind_some]
                  rw [k1, pk_sub (by omega), show Z 1 (nnk S F0 (fu w k c) k) a + S 1 - 1 = S 1 - 1 by omega, Nat.mod_eq_of_lt (by omega)]
            rw [hneed]
            simp only [Option.bind_some]
            obtain ⟨m47, g1, g2, g3, g4⟩ := hrec hk0 (fu w k c) (fu av k a) (nxn S (Z 1 (nnk S F0 (fu w k c) k) a)) v m39 (Or.inl (nxn_lt hn1 hz1n)) W39 S39 I39 hVL1 (by rw [show S 2 - k = r + 1 by omega]; exact hwp')
            rw [show nI k - 1 = nI (k - 1) from pk_sub (b := 1) (by omega)]
            rw [show S 2 - k = r + 1 by omega] at g1
            rw [g1]
            simp only [Option.bind_some]
            have e47 : m47.1 51 9 = nI (laG S F0 Y (fu w k c) (r + 1)) := by rw [g3.2.1, show S 2 - k = r + 1 by omega]
            have e47b : m47.1 (70 + 8 * nnk S F0 (fu w k c) k) 1 = nI (Y 1 (nnk S F0 (fu w k c) k)) := ((W39.kl g4).2.2.2.2.2.2 _ hnn).2.1
            rw [e47, e47b, bd_n, ← hla, or_bd hdis]
            have K49 : Kl m (rm_i m47 51 9 (nI (laG S F0 Y w r))) := (K39.tr g4).sti (by unfold Pla; omega)
            refine ⟨_, rfl, ⟨fun d hd => ?_, ?_, fun j j1 j2 => ?_⟩, ?_, K49, hW.kl K49⟩
            · rw [mi_get, if_neg (by omega)]; exact g3.1 d hd
            · rw [mi_get, if_pos ⟨rfl, rfl⟩]
            · rw [mi_get, if_neg (by omega), g3.2.2 j (by omega) j2, fu_n (by omega), nnk_c (w := fu w k c) (u := w) fun i hi => fu_n (by omega)]
            · rw [hG]
              refine A1 _ _ _ g2 (fun i hi => ?_) ?_ rfl
              · rw [mi_get, if_neg (fun z => hi z.2)]
              · funext j; rw [mi_get, if_neg (by omega)]
      · rw [if_neg (by rw [k2, nI_eq (by omega) (by omega)]; exact ha2)]
        refine ⟨m, rfl, hst, ?_, Kl.rf, hW⟩
        rw [hG]
        have hid : FO S F0 Y Z add k v (nxn S (Z 1 (nnk S F0 (fu w k c) k) a)) (fu w k c) (fu av k a) = v := FO_id fun w' av' y1 y2 => A4 ha2 r w' av' v m (by omega) hI (by rw [wrG_c (by omega) (by rw [hr1]; exact y1) (by rw [hr1]; exact y2)]; exact hw0)
        rw [hid]; exact hI
