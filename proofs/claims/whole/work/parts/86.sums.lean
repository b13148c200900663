/-! SUMS in a commutative monoid, ranged and nested -/
def CM {M : Type} (op : M → M → M) (e : M) : Prop := (∀ a b, op a b = op b a) ∧ (∀ a b c, op (op a b) c = op a (op b c)) ∧ ∀ a, op e a = a
def gs {M : Type} (op : M → M → M) (e : M) (f : Nat → M) : Nat → M
  | 0 => e
  | k + 1 => op (gs op e f k) (f k)
theorem CM_r {M : Type} {op : M → M → M} {e : M} (h : CM op e) (a : M) : op a e = a := by rw [h.1, h.2.2]
theorem CM_x {M : Type} {op : M → M → M} {e : M} (h : CM op e) (a b c d : M) : op (op a b) (op c d) = op (op a c) (op b d) := by
  rw [h.2.1, h.2.1, ← h.2.1 b c d, h.1 b c, h.2.1 c b d]
theorem gs_cong {M : Type} {op : M → M → M} {e : M} {f g : Nat → M} : ∀ {n : Nat}, (∀ i, i < n → f i = g i) → gs op e f n = gs op e g n
  | 0, _ => rfl
  | n + 1, h => by rw [gs, gs, gs_cong fun i hi => h i (by omega), h n (by omega)]
theorem gs_e {M : Type} {op : M → M → M} {e : M} (h : CM op e) {f : Nat → M} : ∀ {n : Nat}, (∀ i, i < n → f i = e) → gs op e f n = e
  | 0, _ => rfl
  | n + 1, hf => by rw [gs, gs_e h fun i hi => hf i (by omega), hf n (by omega), h.2.2]
theorem gs_op {M : Type} {op : M → M → M} {e : M} (h : CM op e) (f g : Nat → M) : ∀ n, gs op e (fun i => op (f i) (g i)) n = op (gs op e f n) (gs op e g n)
  | 0 => by rw [gs, gs, gs, h.2.2]
  | n + 1 => by rw [gs, gs, gs, gs_op h f g n, CM_x h]
theorem gs_swap {M : Type} {op : M → M → M} {e : M} (h : CM op e) (f : Nat → Nat → M) (b : Nat) : ∀ a, gs op e (fun i => gs op e (fun j => f i j) b) a = gs op e (fun j => gs op e (fun i => f i j) a) b
  | 0 => by rw [gs]; exact (gs_e h fun i hi => rfl).symm
  | a + 1 => by
    rw [gs, gs_swap h f b a, ← gs_op h]
    exact gs_cong fun j hj => rfl
theorem gs_if {M : Type} {op : M → M → M} {e : M} (h : CM op e) (c : Prop) [Decidable c] (f : Nat → M) (n : Nat) : (if c then gs op e f n else e) = gs op e (fun i => if c then f i else e) n := by
  by_cases q : c
  · rw [if_pos q]; exact gs_cong fun i hi => by rw [if_pos q]
  · rw [if_neg q]; exact (gs_e h fun i hi => by rw [if_neg q]).symm
theorem gs_add {M : Type} {op : M → M → M} {e : M} (h : CM op e) (f : Nat → M) (a : Nat) : ∀ b, gs op e f (a + b) = op (gs op e f a) (gs op e (fun i => f (a + i)) b)
  | 0 => by rw [gs, Nat.add_zero, CM_r h]
  | b + 1 => by rw [← Nat.add_assoc, gs, gs_add h f a b, gs, h.2.1]
theorem gs_mul {M : Type} {op : M → M → M} {e : M} (h : CM op e) (f : Nat → M) (b : Nat) : ∀ a, gs op e f (a * b) = gs op e (fun r => gs op e (fun c => f (r * b + c)) b) a
  | 0 => by rw [Nat.zero_mul, gs, gs]
  | a + 1 => by rw [Nat.add_mul, Nat.one_mul, gs_add h, gs_mul h f b a, gs]
theorem gs_one {M : Type} {op : M → M → M} {e : M} (h : CM op e) {y : M} {s : Nat} : ∀ {n : Nat}, s < n → gs op e (fun i => if i = s then y else e) n = y
  | 0, hs => absurd hs (Nat.not_lt_zero s)
  | n + 1, hs => by
    rw [gs]
    by_cases q : n = s
    · rw [if_pos q, gs_e h fun i hi => by rw [if_neg (by omega)], h.2.2]
    · rw [if_neg q, gs_one h (by omega), CM_r h]
/-- nested sums over rows of k numbers below n, the highest place outermost -/
def NS {M : Type} (op : M → M → M) (e : M) (n : Nat) : Nat → (Nat → Nat) → ((Nat → Nat) → M) → M
  | 0, w, φ => φ w
  | k + 1, w, φ => gs op e (fun c => NS op e n k (fu w k c) φ) n
theorem NS_cong {M : Type} {op : M → M → M} {e : M} {n : Nat} : ∀ {k : Nat} {w : Nat → Nat} {φ ψ : (Nat → Nat) → M}, (∀ w', (∀ j, k ≤ j → w' j = w j) → (∀ j, j < k → w' j < n) → φ w' = ψ w') → NS op e n k w φ = NS op e n k w ψ
  | 0, w, φ, ψ, h => h w (fun _ _ => rfl) (fun j hj => absurd hj (Nat.not_lt_zero j))
  | k + 1, w, φ, ψ, h => by
    rw [NS, NS]
    refine gs_cong fun c hc => NS_cong fun w' h1 h2 => h w' (fun j hj => ?_) (fun j hj => ?_)
    · rw [h1 j (by omega), fu_n (by omega)]
    · by_cases q : j = k
      · rw [q, h1 k (Nat.le_refl k), fu_s]; exact hc
      · exact h2 j (by omega)
theorem NS_gs {M : Type} {op : M → M → M} {e : M} (h : CM op e) {n : Nat} {m : Nat} : ∀ {k : Nat} {w : Nat → Nat} (f : (Nat → Nat) → Nat → M), NS op e n k w (fun w' => gs op e (f w') m) = gs op e (fun o => NS op e n k w (fun w' => f w' o)) m
  | 0, w, f => rfl
  | k + 1, w, f => by
    rw [NS]
    simp only [NS_gs h f]
    rw [gs_swap h]
    rfl
theorem NS_e {M : Type} {op : M → M → M} {e : M} (h : CM op e) {n : Nat} : ∀ {k : Nat} {w : Nat → Nat}, NS op e n k w (fun _ => e) = e
  | 0, w => rfl
  | k + 1, w => by rw [NS]; exact gs_e h fun i hi => NS_e h
theorem NS_if {M : Type} {op : M → M → M} {e : M} (h : CM op e) {n k : Nat} {w : Nat → Nat} (c : Prop) [Decidable c] (φ : (Nat → Nat) → M) : (if c then NS op e n k w φ else e) = NS op e n k w (fun w' => if c then φ w' else e) := by
  by_cases q : c
  · rw [if_pos q]; exact NS_cong fun w' _ _ => by rw [if_pos q]
  · rw [if_neg q]; exact (NS_e h (n := n) (k := k) (w := w)).symm.trans (NS_cong fun w' _ _ => (if_neg q).symm)
/-- the digits of a row, the last place lowest -/
def dgw (n : Nat) : Nat → Nat → (Nat → Nat) → Nat → Nat
  | 0, _, w => w
  | k + 1, r, w => dgw n k (r / n) (fu w k (r % n))
theorem gs_row {M : Type} {op : M → M → M} {e : M} (h : CM op e) {n : Nat} (hn : 0 < n) (φ : (Nat → Nat) → M) : ∀ (k : Nat) (w : Nat → Nat), gs op e (fun r => φ (dgw n k r w)) (n ^ k) = NS op e n k w φ
  | 0, w => by rw [Nat.pow_zero, gs, gs, h.2.2]; rfl
  | k + 1, w => by
    rw [Nat.pow_succ, gs_mul h, NS, gs_swap h]
    refine gs_cong fun c hc => ?_
    rw [← gs_row h hn φ k (fu w k c)]
    refine gs_cong fun r hr => ?_
    rw [dgw, show (r * n + c) / n = r by rw [Nat.mul_comm, Nat.mul_add_div hn, Nat.div_eq_of_lt hc, Nat.add_zero], show (r * n + c) % n = c by rw [Nat.mul_comm, Nat.mul_add_mod, Nat.mod_eq_of_lt hc]]
/-- nested over two rows at once -/
def NF {M : Type} (op : M → M → M) (e : M) (n o : Nat) : Nat → (Nat → Nat) → (Nat → Nat) → ((Nat → Nat) → (Nat → Nat) → M) → M
  | 0, w, q, φ => φ w q
  | k + 1, w, q, φ => gs op e (fun c => gs op e (fun x => NF op e n o k (fu w k c) (fu q k x) φ) o) n
theorem NF_eq {M : Type} {op : M → M → M} {e : M} (h : CM op e) {n o : Nat} (φ : (Nat → Nat) → (Nat → Nat) → M) : ∀ (k : Nat) (w q : Nat → Nat), NF op e n o k w q φ = NS op e n k w (fun w' => NS op e o k q (fun q' => φ w' q'))
  | 0, w, q => rfl
  | k + 1, w, q => by
    rw [NF, NS]
    refine gs_cong fun c hc => ?_
    rw [gs_cong fun x hx => NF_eq h φ k (fu w k c) (fu q k x)]
    rw [← NS_gs h]
    rfl
theorem NF_cong {M : Type} {op : M → M → M} {e : M} {n o : Nat} : ∀ {k : Nat} {w q : Nat → Nat} {φ ψ : (Nat → Nat) → (Nat → Nat) → M}, (∀ w' q', (∀ j, k ≤ j → w' j = w j) → (∀ j, k ≤ j → q' j = q j) → (∀ j, j < k → w' j < n) → (∀ j, j < k → q' j < o) → φ w' q' = ψ w' q') → NF op e n o k w q φ = NF op e n o k w q ψ
  | 0, w, q, φ, ψ, h => h w q (fun _ _ => rfl) (fun _ _ => rfl) (fun j hj => absurd hj (Nat.not_lt_zero j)) (fun j hj => absurd hj (Nat.not_lt_zero j))
  | k + 1, w, q, φ, ψ, h => by
    rw [NF, NF]
    refine gs_cong fun c hc => gs_cong fun x hx => NF_cong fun w' q' h1 h2 h3 h4 => h w' q' (fun j hj => ?_) (fun j hj => ?_) (fun j hj => ?_) (fun j hj => ?_)
    · rw [h1 j (by omega), fu_n (by omega)]
    · rw [h2 j (by omega), fu_n (by omega)]
    · by_cases z : j = k
      · rw [z, h1 k (Nat.le_refl k), fu_s]; exact hc
      · exact h3 j (by omega)
    · by_cases z : j = k
      · rw [z, h2 k (Nat.le_refl k), fu_s]; exact hx
      · exact h4 j (by omega)
theorem NF_e {M : Type} {op : M → M → M} {e : M} (h : CM op e) {n o : Nat} : ∀ {k : Nat} {w q : Nat → Nat}, NF op e n o k w q (fun _ _ => e) = e
  | 0, w, q => rfl
  | k + 1, w, q => by rw [NF]; exact gs_e h fun i hi => gs_e h fun j hj => NF_e h
theorem NF_if {M : Type} {op : M → M → M} {e : M} (h : CM op e) {n o k : Nat} {w q : Nat → Nat} (c : Prop) [Decidable c] (φ : (Nat → Nat) → (Nat → Nat) → M) : (if c then NF op e n o k w q φ else e) = NF op e n o k w q (fun w' q' => if c then φ w' q' else e) := by
  by_cases z : c
  · rw [if_pos z]; exact NF_cong fun w' q' _ _ _ _ => by rw [if_pos z]
  · rw [if_neg z]; exact (NF_e h (n := n) (o := o) (k := k) (w := w) (q := q)).symm.trans (NF_cong fun w' q' _ _ _ _ => (if_neg z).symm)
theorem CM_nat : CM (fun a b : Nat => a + b) 0 := ⟨Nat.add_comm, Nat.add_assoc, Nat.zero_add⟩
def orP {α : Type} (P Q : α → Prop) : α → Prop := fun a => P a ∨ Q a
def noP {α : Type} : α → Prop := fun _ => False
theorem CM_set {α : Type} : CM (orP (α := α)) noP := by
  refine ⟨fun a b => ?_, fun a b c => ?_, fun a => ?_⟩
  · funext x; exact propext ⟨fun h => h.elim Or.inr Or.inl, fun h => h.elim Or.inr Or.inl⟩
  · funext x; exact propext ⟨fun h => h.elim (fun y => y.elim Or.inl fun z => Or.inr (Or.inl z)) fun y => Or.inr (Or.inr y), fun h => h.elim (fun y => Or.inl (Or.inl y)) fun y => y.elim (fun z => Or.inl (Or.inr z)) Or.inr⟩
  · funext x; exact propext ⟨fun h => h.elim (fun y => y.elim) id, Or.inr⟩
theorem gs_set {α : Type} {f : Nat → α → Prop} {a : α} : ∀ {n : Nat}, gs orP noP f n a ↔ ∃ i, i < n ∧ f i a
  | 0 => ⟨fun h => h.elim, fun ⟨i, hi, _⟩ => absurd hi (Nat.not_lt_zero i)⟩
  | n + 1 => by
    rw [gs]
    show gs orP noP f n a ∨ f n a ↔ _
    rw [gs_set]
    constructor
    · rintro (⟨i, hi, h⟩ | h)
      · exact ⟨i, by omega, h⟩
      · exact ⟨n, by omega, h⟩
    · rintro ⟨i, hi, h⟩
      by_cases q : i = n
      · rw [q] at h; exact Or.inr h
      · exact Or.inl ⟨i, by omega, h⟩
theorem NF_set {α : Type} {n o : Nat} {a : α} {φ : (Nat → Nat) → (Nat → Nat) → α → Prop} : ∀ {k : Nat} {w q : Nat → Nat}, NF orP noP n o k w q φ a ↔ ∃ w' q', (∀ j, k ≤ j → w' j = w j) ∧ (∀ j, k ≤ j → q' j = q j) ∧ (∀ j, j < k → w' j < n) ∧ (∀ j, j < k → q' j < o) ∧ φ w' q' a
  | 0, w, q => by
    rw [NF]
    constructor
    · intro h; exact ⟨w, q, fun _ _ => rfl, fun _ _ => rfl, fun j hj => absurd hj (Nat.not_lt_zero j), fun j hj => absurd hj (Nat.not_lt_zero j), h⟩
    · rintro ⟨w', q', h1, h2, _, _, h⟩
      obtain rfl : w' = w := funext fun j => h1 j (Nat.zero_le j)
      obtain rfl : q' = q := funext fun j => h2 j (Nat.zero_le j)
      exact h
  | k + 1, w, q => by
    rw [NF, gs_set]
    constructor
    · rintro ⟨c, hc, h⟩
      obtain ⟨x, hx, h⟩ := gs_set.mp h
      obtain ⟨w', q', h1, h2, h3, h4, h5⟩ := NF_set.mp h
      refine ⟨w', q', fun j hj => ?_, fun j hj => ?_, fun j hj => ?_, fun j hj => ?_, h5⟩
      · rw [h1 j (by omega), fu_n (by omega)]
      · rw [h2 j (by omega), fu_n (by omega)]
      · by_cases z : j = k
        · rw [z, h1 k (Nat.le_refl k), fu_s]; exact hc
        · exact h3 j (by omega)
      · by_cases z : j = k
        · rw [z, h2 k (Nat.le_refl k), fu_s]; exact hx
        · exact h4 j (by omega)
    · rintro ⟨w', q', h1, h2, h3, h4, h5⟩
      refine ⟨w' k, h3 k (by omega), gs_set.mpr ⟨q' k, h4 k (by omega), NF_set.mpr ⟨w', q', fun j hj => ?_, fun j hj => ?_, fun j hj => h3 j (by omega), fun j hj => h4 j (by omega), h5⟩⟩⟩
      · by_cases z : j = k
        · rw [z, fu_s]
        · rw [fu_n z]; exact h1 j (by omega)
      · by_cases z : j = k
        · rw [z, fu_s]
        · rw [fu_n z]; exact h2 j (by omega)
