/-! SEARCH: what is folded over the lines, from the last trick back -/
def lfk (S w : Nat → Nat) (k c : Nat) : Nat := S (12 + c) / S 1 - fb_ct (fun j => decide (w (k + j) = c)) (S 2 - k)
theorem lfk_c {S w u : Nat → Nat} {k c : Nat} (h : ∀ j, k ≤ j → w j = u j) : lfk S w k c = lfk S u k c := by
  unfold lfk
  rw [fb_ct_cong (q := fun j => decide (u (k + j) = c)) fun j hj => by rw [h (k + j) (by omega)]]
theorem lfk_s {S w : Nat → Nat} {k : Nat} (hk : k < S 2) (d : Nat) : lfk S w k d = lfk S w (k + 1) d - (if d = w k then 1 else 0) := by
  unfold lfk
  rw [show S 2 - k = 1 + (S 2 - (k + 1)) by omega, fb_ct_split, fb_ct_succ]
  have e : fb_ct (fun j => (fun j => decide (w (k + j) = d)) (1 + j)) (S 2 - (k + 1)) = fb_ct (fun j => decide (w (k + 1 + j) = d)) (S 2 - (k + 1)) := fb_ct_cong fun j hj => by
    show decide (w (k + (1 + j)) = d) = _
    rw [← Nat.add_assoc]
  have e0 : fb_ct (fun j => decide (w (k + j) = d)) 0 = 0 := rfl
  rw [e, e0, Nat.add_zero]
  by_cases q : d = w k
  · rw [if_pos (decide_eq_true q.symm), if_pos q]; omega
  · rw [if_neg (by rw [decide_eq_false (fun z => q z.symm)]; decide), if_neg q]; omega
theorem lfk_f {S w : Nat → Nat} {k c : Nat} (hk : k < S 2) (d : Nat) : lfk S (fu w k c) k d = lfk S w (k + 1) d - (if d = c then 1 else 0) := by
  rw [lfk_s hk, fu_s, lfk_c (w := fu w k c) (u := w) fun j hj => fu_n (by omega)]
theorem lfk_t {S w : Nat → Nat} {c : Nat} : lfk S w (S 2) c = S (12 + c) / S 1 := by
  unfold lfk
  rw [Nat.sub_self]
  rfl
theorem lfk_le {S w : Nat → Nat} {k c : Nat} : lfk S w k c ≤ S (12 + c) / S 1 := Nat.sub_le _ _
theorem lfk_m {S w : Nat → Nat} {c : Nat} : ∀ {d k : Nat}, k + d ≤ S 2 → lfk S w k c ≤ lfk S w (k + d) c
  | 0, k, _ => Nat.le_refl _
  | d + 1, k, h => by
    have h1 := lfk_s (S := S) (w := w) (k := k) (by omega) c
    have h2 := lfk_m (S := S) (w := w) (c := c) (d := d) (k := k + 1) (by omega)
    rw [show k + (d + 1) = k + 1 + d by omega]
    omega
def ixk (S w : Nat → Nat) (k : Nat) : Nat := lfk S w (k + 1) (w k) - 1
def nnk (S F0 w : Nat → Nat) (k : Nat) : Nat := F0 (w k) + ixk S w k
theorem ixk_c {S w u : Nat → Nat} {k : Nat} (h : ∀ j, k ≤ j → w j = u j) : ixk S w k = ixk S u k := by
  unfold ixk
  rw [lfk_c (fun j hj => h j (by omega)), h k (Nat.le_refl k)]
theorem nnk_c {S F0 w u : Nat → Nat} {k : Nat} (h : ∀ j, k ≤ j → w j = u j) : nnk S F0 w k = nnk S F0 u k := by
  unfold nnk
  rw [ixk_c h, h k (Nat.le_refl k)]
theorem nnk_f {S F0 w : Nat → Nat} {k c : Nat} : nnk S F0 (fu w k c) k = F0 c + (lfk S w (k + 1) c - 1) := by
  unfold nnk ixk
  rw [fu_s, lfk_c (w := fu w k c) (u := w) fun j hj => fu_n (by omega)]
def kz (S F0 : Nat → Nat) (Z : Nat → Nat → Nat → Nat) (f : Nat) (w av : Nat → Nat) (k : Nat) : Nat := Z f (nnk S F0 w k) (av k)
def suG (S F0 : Nat → Nat) (Z : Nat → Nat → Nat → Nat) (w av : Nat → Nat) : Nat → Nat
  | 0 => 0
  | r + 1 => suG S F0 Z w av r ||| kz S F0 Z 3 w av (S 2 - (r + 1))
def wrG (S F0 : Nat → Nat) (Z : Nat → Nat → Nat → Nat) (w av : Nat → Nat) (r : Nat) : Nat := cin (suG S F0 Z w av r &&& kz S F0 Z 2 w av (S 2 - (r + 1)))
def nbG (S F0 : Nat → Nat) (Z : Nat → Nat → Nat → Nat) (w av : Nat → Nat) : Nat → Nat
  | 0 => 0
  | r + 1 => nbG S F0 Z w av r + cnt (wrG S F0 Z w av r)
def byG (S F0 : Nat → Nat) (Z : Nat → Nat → Nat → Nat) (w av : Nat → Nat) : Nat → Nat
  | 0 => 0
  | r + 1 => byG S F0 Z w av r ||| wrG S F0 Z w av r
def laG (S F0 : Nat → Nat) (Y : Nat → Nat → Nat) (w : Nat → Nat) : Nat → Nat
  | 0 => 0
  | r + 1 => laG S F0 Y w r ||| Y 1 (nnk S F0 w (S 2 - (r + 1)))
def agG (S F0 : Nat → Nat) (Y : Nat → Nat → Nat) (Z : Nat → Nat → Nat → Nat) (w av : Nat → Nat) (r : Nat) : Nat := bm (agB S (S 2 - (r + 1)) (kz S F0 Z 1 w av (S 2 - (r + 1))) (Y 1 (nnk S F0 w (S 2 - (r + 1)))) (laG S F0 Y w r) (suG S F0 Z w av (r + 1))) (S 10)
def bkG (S F0 : Nat → Nat) (Y : Nat → Nat → Nat) (Z : Nat → Nat → Nat → Nat) (w av : Nat → Nat) : Nat → Nat
  | 0 => 0
  | r + 1 => (bkG S F0 Y Z w av r ||| kz S F0 Z 4 w av (S 2 - (r + 1))) ||| agG S F0 Y Z w av r
/-- rows that are alike from trick k on -/
def alk (k : Nat) (w u : Nat → Nat) : Prop := ∀ j, k ≤ j → w j = u j
theorem alk.mono {k l : Nat} {w u : Nat → Nat} (h : alk k w u) (hl : k ≤ l) : alk l w u := fun j hj => h j (by omega)
theorem kz_c {S F0 : Nat → Nat} {Z : Nat → Nat → Nat → Nat} {f k : Nat} {w av u bv : Nat → Nat} (h1 : alk k w u) (h2 : alk k av bv) : kz S F0 Z f w av k = kz S F0 Z f u bv k := by
  unfold kz
  rw [nnk_c h1, h2 k (Nat.le_refl k)]
theorem suG_c {S F0 : Nat → Nat} {Z : Nat → Nat → Nat → Nat} {w av u bv : Nat → Nat} : ∀ {r : Nat}, r ≤ S 2 → alk (S 2 - r) w u → alk (S 2 - r) av bv → suG S F0 Z w av r = suG S F0 Z u bv r
  | 0, _, _, _ => rfl
  | r + 1, hr, h1, h2 => by rw [suG, suG, suG_c (by omega) (h1.mono (by omega)) (h2.mono (by omega)), kz_c h1 h2]
theorem laG_c {S F0 : Nat → Nat} {Y : Nat → Nat → Nat} {w u : Nat → Nat} : ∀ {r : Nat}, r ≤ S 2 → alk (S 2 - r) w u → laG S F0 Y w r = laG S F0 Y u r
  | 0, _, _ => rfl
  | r + 1, hr, h1 => by rw [laG, laG, laG_c (by omega) (h1.mono (by omega)), nnk_c h1]
theorem wrG_c {S F0 : Nat → Nat} {Z : Nat → Nat → Nat → Nat} {w av u bv : Nat → Nat} {r : Nat} (hr : r < S 2) (h1 : alk (S 2 - (r + 1)) w u) (h2 : alk (S 2 - (r + 1)) av bv) : wrG S F0 Z w av r = wrG S F0 Z u bv r := by
  unfold wrG
  rw [suG_c (by omega) (h1.mono (by omega)) (h2.mono (by omega)), kz_c h1 h2]
theorem nbG_c {S F0 : Nat → Nat} {Z : Nat → Nat → Nat → Nat} {w av u bv : Nat → Nat} : ∀ {r : Nat}, r ≤ S 2 → alk (S 2 - r) w u → alk (S 2 - r) av bv → nbG S F0 Z w av r = nbG S F0 Z u bv r
  | 0, _, _, _ => rfl
  | r + 1, hr, h1, h2 => by rw [nbG, nbG, nbG_c (by omega) (h1.mono (by omega)) (h2.mono (by omega)), wrG_c (by omega) h1 h2]
theorem byG_c {S F0 : Nat → Nat} {Z : Nat → Nat → Nat → Nat} {w av u bv : Nat → Nat} : ∀ {r : Nat}, r ≤ S 2 → alk (S 2 - r) w u → alk (S 2 - r) av bv → byG S F0 Z w av r = byG S F0 Z u bv r
  | 0, _, _, _ => rfl
  | r + 1, hr, h1, h2 => by rw [byG, byG, byG_c (by omega) (h1.mono (by omega)) (h2.mono (by omega)), wrG_c (by omega) h1 h2]
theorem bkG_c {S F0 : Nat → Nat} {Y : Nat → Nat → Nat} {Z : Nat → Nat → Nat → Nat} {w av u bv : Nat → Nat} : ∀ {r : Nat}, r ≤ S 2 → alk (S 2 - r) w u → alk (S 2 - r) av bv → bkG S F0 Y Z w av r = bkG S F0 Y Z u bv r
  | 0, _, _, _ => rfl
  | r + 1, hr, h1, h2 => by
    rw [bkG, bkG, bkG_c (by omega) (h1.mono (by omega)) (h2.mono (by omega)), kz_c h1 h2]
    unfold agG
    rw [kz_c h1 h2, nnk_c h1, laG_c (by omega) (h1.mono (by omega)), suG_c hr h1 h2]
def rfold {V : Type} (f : V → Nat → V) : Nat → Nat → V → V
  | 0, _, v => v
  | r + 1, i, v => rfold f r (i + 1) (f v i)
theorem rfold_id {V : Type} {f : V → Nat → V} {v : V} : ∀ {r i : Nat}, (∀ x, i ≤ x → x < i + r → f v x = v) → rfold f r i v = v
  | 0, _, _ => rfl
  | r + 1, i, h => by rw [rfold, h i (by omega) (by omega)]; exact rfold_id fun x h1 h2 => h x (by omega) (by omega)
theorem rfold_c {V : Type} {f g : V → Nat → V} : ∀ {r i : Nat} {v : V}, (∀ v x, i ≤ x → x < i + r → f v x = g v x) → rfold f r i v = rfold g r i v
  | 0, _, _, _ => rfl
  | r + 1, i, v, h => by rw [rfold, rfold, h v i (by omega) (by omega)]; exact rfold_c fun v x h1 h2 => h v x (by omega) (by omega)
def mlk (S : Nat → Nat) (k ld need lft : Nat) : Bool := decide (k ≠ 0 ∨ S 8 = 4 ∨ ld = S 8) && (if S 6 = 1 then decide (need = 4 ∨ ld = need) else decide (k = 0 ∨ 0 < lft))
def nxn (S : Nat → Nat) (ld : Nat) : Nat := if S 6 = 0 then ld else (ld + S 1 - 1) % S 1
/-- the fold that the class does -/
def FO {V : Type} (S F0 : Nat → Nat) (Y : Nat → Nat → Nat) (Z : Nat → Nat → Nat → Nat) (add : V → (Nat → Nat) → (Nat → Nat) → V) : Nat → V → Nat → (Nat → Nat) → (Nat → Nat) → V
  | 0, v, _, w, av => add v w av
  | k + 1, v, need, w, av => rfold (fun v c => if 0 < lfk S w (k + 1) c ∧ (S 6 = 1 ∨ need = 4 ∨ c = need) then rfold (fun v a => if mlk S k (Z 1 (nnk S F0 (fu w k c) k) a) need (lfk S (fu w k c) k (Z 1 (nnk S F0 (fu w k c) k) a)) = true then FO S F0 Y Z add k v (nxn S (Z 1 (nnk S F0 (fu w k c) k) a)) (fu w k c) (fu av k a) else v) (Y 2 (nnk S F0 (fu w k c) k)) 0 v else v) (S 1) 0 v
theorem FO_id {V : Type} {S F0 : Nat → Nat} {Y : Nat → Nat → Nat} {Z : Nat → Nat → Nat → Nat} {add : V → (Nat → Nat) → (Nat → Nat) → V} {v : V} : ∀ {k need : Nat} {w av : Nat → Nat}, (∀ w' av', alk k w' w → alk k av' av → add v w' av' = v) → FO S F0 Y Z add k v need w av = v
  | 0, need, w, av, h => h w av (fun _ _ => rfl) (fun _ _ => rfl)
  | k + 1, need, w, av, h => by
    rw [FO]
    refine rfold_id fun c _ _ => ?_
    split
    · refine rfold_id fun a _ _ => ?_
      split
      · refine FO_id fun w' av' h1 h2 => h w' av' (fun j hj => ?_) (fun j hj => ?_)
        · rw [h1 j (by omega), fu_n (by omega)]
        · rw [h2 j (by omega), fu_n (by omega)]
      · rfl
    · rfl
/-- what the class's memory says of the tricks -/
def WMs (S F0 : Nat → Nat) (Y : Nat → Nat → Nat) (Z : Nat → Nat → Nat → Nat) (m : rn_Mem) : Prop := m.1 52 1 = nI (S 1) ∧ m.1 52 2 = nI (S 2) ∧ m.1 52 6 = nI (S 6) ∧ m.1 52 8 = cT (S 8) ∧ (∀ c, c < S 1 → m.1 63 c = nI (F0 c)) ∧ CLm S 57 m ∧ ∀ u, u < S 2 → m.1 (70 + 8 * u) 0 = nI (Y 0 u) ∧ m.1 (70 + 8 * u) 1 = nI (Y 1 u) ∧ m.1 (70 + 8 * u) 2 = nI (Y 2 u) ∧ ∀ a, a < Y 2 u → m.1 (70 + 8 * u + 1) a = nI (Z 1 u a) ∧ m.1 (70 + 8 * u + 2) a = nI (Z 2 u a) ∧ m.1 (70 + 8 * u + 3) a = nI (Z 3 u a) ∧ m.1 (70 + 8 * u + 4) a = nI (Z 4 u a) ∧ m.1 (70 + 8 * u + 5) a = nI (Z 5 u a) ∧ m.2 (70 + 8 * u + 6) a = lN (Z 6 u a) ∧ m.1 (70 + 8 * u + 7) a = nI (Z 7 u a)
/-- and how large they are -/
def YZ (S F0 : Nat → Nat) (Y : Nat → Nat → Nat) (Z : Nat → Nat → Nat → Nat) : Prop := (∀ c, c < S 1 → F0 c + S (12 + c) / S 1 ≤ S 2) ∧ (∀ c d, c < d → d < S 1 → F0 c + S (12 + c) / S 1 ≤ F0 d) ∧ (∀ u, u < S 2 → Y 0 u < S 1 ∧ Y 1 u < 65536 ∧ Y 2 u ≤ 24 ∧ ∀ a, a < Y 2 u → Z 1 u a < S 1 ∧ Z 2 u a < 65536 ∧ Z 3 u a < 65536 ∧ Z 4 u a < 64 ∧ Z 5 u a ≤ 24 ∧ Z 7 u a < 65536) ∧ ∀ u v x, u < S 2 → v < S 2 → u ≠ v → (Y 1 u).testBit x = true → (Y 1 v).testBit x = false
/-- laid from trick k on -/
def VL (S F0 : Nat → Nat) (Y : Nat → Nat → Nat) (w av : Nat → Nat) (k : Nat) : Prop := ∀ j, k ≤ j → j < S 2 → w j < S 1 ∧ 0 < lfk S w (j + 1) (w j) ∧ av j < Y 2 (nnk S F0 w j)
theorem VL_nn {S F0 : Nat → Nat} {Y : Nat → Nat → Nat} {Z : Nat → Nat → Nat → Nat} {w av : Nat → Nat} {k j : Nat} (hY : YZ S F0 Y Z) (h : VL S F0 Y w av k) (h1 : k ≤ j) (h2 : j < S 2) : nnk S F0 w j < S 2 := by
  obtain ⟨a1, a2, _⟩ := h j h1 h2
  have := hY.1 (w j) a1
  have := lfk_le (S := S) (w := w) (k := j + 1) (c := w j)
  unfold nnk ixk
  omega
theorem VL_ne {S F0 : Nat → Nat} {Y : Nat → Nat → Nat} {Z : Nat → Nat → Nat → Nat} {w av : Nat → Nat} {k j : Nat} (hY : YZ S F0 Y Z) (h : VL S F0 Y w av k) (h1 : k < j) (h2 : j < S 2) : nnk S F0 w k ≠ nnk S F0 w j := by
  obtain ⟨a1, a2, _⟩ := h k (Nat.le_refl k) (by omega)
  obtain ⟨b1, b2, _⟩ := h j (by omega) h2
  have c1 := lfk_le (S := S) (w := w) (k := k + 1) (c := w k)
  have c2 := lfk_le (S := S) (w := w) (k := j + 1) (c := w j)
  unfold nnk ixk
  by_cases q : w k = w j
  · rw [q] at a2 ⊢
    have d1 := lfk_s (S := S) (w := w) (k := j) h2 (w j)
    rw [if_pos rfl] at d1
    have d2 := lfk_m (S := S) (w := w) (c := w j) (d := j - (k + 1)) (k := k + 1) (by omega)
    rw [show k + 1 + (j - (k + 1)) = j by omega] at d2
    omega
  · rcases Nat.lt_or_gt_of_ne q with z | z
    · have := hY.2.1 (w k) (w j) z b1
      omega
    · have := hY.2.1 (w j) (w k) z a1
      omega
theorem VL_b {S F0 : Nat → Nat} {Y : Nat → Nat → Nat} {Z : Nat → Nat → Nat → Nat} {w av : Nat → Nat} (hY : YZ S F0 Y Z) : ∀ {r : Nat}, r ≤ S 2 → VL S F0 Y w av (S 2 - r) → suG S F0 Z w av r < 65536 ∧ nbG S F0 Z w av r ≤ 16 * r ∧ byG S F0 Z w av r < 65536 ∧ laG S F0 Y w r < 65536 ∧ (S 10 ≤ 6 → bkG S F0 Y Z w av r < 64)
  | 0, _, _ => ⟨by rw [suG]; omega, by rw [nbG]; omega, by rw [byG]; omega, by rw [laG]; omega, fun _ => by rw [bkG]; omega⟩
  | r + 1, hr, h => by
    obtain ⟨i1, i2, i3, i4, i5⟩ := VL_b hY (r := r) (by omega) (fun j h1 h2 => h j (by omega) h2)
    have hn := VL_nn hY h (Nat.le_refl _) (by omega)
    obtain ⟨y0, y1, y2, y3⟩ := hY.2.2.1 _ hn
    obtain ⟨z1, z2, z3, z4, z5, z7⟩ := y3 _ (h _ (Nat.le_refl _) (by omega)).2.2
    have hw := cin_lt (suG S F0 Z w av r &&& kz S F0 Z 2 w av (S 2 - (r + 1)))
    have hc := fb_ct_le (fun x => (wrG S F0 Z w av r).testBit x) 16
    refine ⟨?_, ?_, ?_, ?_, fun h6 => ?_⟩
    · rw [suG]; exact or_lt (k := 16) i1 z3
    · rw [nbG]
      have : cnt (wrG S F0 Z w av r) ≤ 16 := hc
      omega
    · rw [byG]; exact or_lt (k := 16) i3 hw
    · rw [laG]; exact or_lt (k := 16) i4 y1
    · rw [bkG]
      refine or_lt (k := 6) (or_lt (k := 6) (i5 h6) z4) ?_
      exact Nat.lt_of_lt_of_le (bm_lt _ _) (Nat.pow_le_pow_right (by decide) h6)
theorem laG_bit {S F0 : Nat → Nat} {Y : Nat → Nat → Nat} {w : Nat → Nat} {x : Nat} : ∀ {r : Nat}, r ≤ S 2 → ((laG S F0 Y w r).testBit x = true ↔ ∃ j, S 2 - r ≤ j ∧ j < S 2 ∧ (Y 1 (nnk S F0 w j)).testBit x = true)
  | 0, _ => by
    rw [laG, Nat.zero_testBit]
    exact ⟨fun h => (by cases h), fun ⟨j, h1, h2, _⟩ => by omega⟩
  | r + 1, hr => by
    rw [laG, Nat.testBit_or, Bool.or_eq_true, laG_bit (by omega)]
    constructor
    · rintro (⟨j, h1, h2, h3⟩ | h)
      · exact ⟨j, by omega, h2, h3⟩
      · exact ⟨_, Nat.le_refl _, by omega, h⟩
    · rintro ⟨j, h1, h2, h3⟩
      by_cases q : j = S 2 - (r + 1)
      · rw [q] at h3; exact Or.inr h3
      · exact Or.inl ⟨j, by omega, h2, h3⟩
theorem or_bd {a b : Nat} (h : ∀ x, a.testBit x = true → b.testBit x = false) : bd (a ||| b) b = a := by
  apply Nat.eq_of_testBit_eq
  intro x
  rw [bd_bit, Nat.testBit_or]
  have := h x
  revert this
  cases a.testBit x <;> cases b.testBit x <;> simp
