/-! SEARCH: a heap turned about: its cards -/
theorem ct_inj {q : Nat → Bool} {σ : Nat → Nat} {N : Nat} : ∀ {n : Nat} {p : Nat → Bool}, (∀ i, i < n → q i = true → σ i < N ∧ p (σ i) = true) → (∀ i j, i < n → j < n → q i = true → q j = true → σ i = σ j → i = j) → fb_ct q n ≤ fb_ct p N
  | 0, _, _, _ => Nat.zero_le _
  | n + 1, p, h1, h2 => by
    rw [fb_ct_succ]
    by_cases y : q n = true
    · rw [if_pos y]
      obtain ⟨a1, a2⟩ := h1 n (by omega) y
      have hu := fb_ct_upd p false a1
      rw [if_pos a2, if_neg (by decide)] at hu
      have ih := ct_inj (q := q) (σ := σ) (N := N) (n := n) (p := fun k => if k = σ n then false else p k) (fun i hi hq => by
        obtain ⟨b1, b2⟩ := h1 i (by omega) hq
        refine ⟨b1, ?_⟩
        show (if σ i = σ n then false else p (σ i)) = true
        rw [if_neg (fun e => by have := h2 i n (by omega) (by omega) hq y e; omega)]
        exact b2) (fun i j hi hj => h2 i j (by omega) (by omega))
      omega
    · rw [if_neg y, Nat.add_zero]
      exact ct_inj (fun i hi => h1 i (by omega)) (fun i j hi hj => h2 i j (by omega) (by omega))
theorem od_p2 : ∀ r, r < 2 → ∀ x, x < 4 → (x % 2 ≠ x / 2 → ∃ r', r' < 2 ∧ od 2 r' 0 = od 2 r (x % 2) ∧ od 2 r' 1 = od 2 r (x / 2)) := by decide +kernel
theorem od_p3 : ∀ r, r < 6 → ∀ x, x < 27 → ((x % 3 ≠ x / 3 % 3 ∧ x % 3 ≠ x / 9 ∧ x / 3 % 3 ≠ x / 9) → ∃ r', r' < 6 ∧ od 3 r' 0 = od 3 r (x % 3) ∧ od 3 r' 1 = od 3 r (x / 3 % 3) ∧ od 3 r' 2 = od 3 r (x / 9)) := by decide +kernel
theorem od_perm {U r : Nat} {τ : Nat → Nat} (hU : U < 4) (hr : r < fac U) (h1 : ∀ t, t < U → τ t < U) (h2 : ∀ s t, s < U → t < U → τ s = τ t → s = t) : ∃ r', r' < fac U ∧ ∀ t, t < U → od U r' t = od U r (τ t) := by
  have e : U = 0 ∨ U = 1 ∨ U = 2 ∨ U = 3 := by omega
  rcases e with rfl | rfl | rfl | rfl
  · exact ⟨r, hr, fun t ht => absurd ht (Nat.not_lt_zero t)⟩
  · refine ⟨r, hr, fun t ht => ?_⟩
    have := h1 t ht
    rw [show t = 0 by omega, show τ 0 = 0 by have := h1 0 (by omega); omega]
  · have a0 := h1 0 (by omega)
    have a1 := h1 1 (by omega)
    have n01 : τ 0 ≠ τ 1 := fun e => by have := h2 0 1 (by omega) (by omega) e; omega
    obtain ⟨r', b1, b2, b3⟩ := od_p2 r (by exact hr) (τ 0 + 2 * τ 1) (by omega) (by omega)
    rw [show (τ 0 + 2 * τ 1) % 2 = τ 0 by omega] at b2
    rw [show (τ 0 + 2 * τ 1) / 2 = τ 1 by omega] at b3
    refine ⟨r', by exact b1, fun t ht => ?_⟩
    have e : t = 0 ∨ t = 1 := by omega
    rcases e with rfl | rfl
    · exact b2
    · exact b3
  · have a0 := h1 0 (by omega)
    have a1 := h1 1 (by omega)
    have a2 := h1 2 (by omega)
    have n01 : τ 0 ≠ τ 1 := fun e => by have := h2 0 1 (by omega) (by omega) e; omega
    have n02 : τ 0 ≠ τ 2 := fun e => by have := h2 0 2 (by omega) (by omega) e; omega
    have n12 : τ 1 ≠ τ 2 := fun e => by have := h2 1 2 (by omega) (by omega) e; omega
    obtain ⟨r', b1, b2, b3, b4⟩ := od_p3 r (by exact hr) (τ 0 + 3 * τ 1 + 9 * τ 2) (by omega) (by
      rw [show (τ 0 + 3 * τ 1 + 9 * τ 2) % 3 = τ 0 by omega, show (τ 0 + 3 * τ 1 + 9 * τ 2) / 3 % 3 = τ 1 by omega, show (τ 0 + 3 * τ 1 + 9 * τ 2) / 9 = τ 2 by omega]
      exact ⟨n01, n02, n12⟩)
    rw [show (τ 0 + 3 * τ 1 + 9 * τ 2) % 3 = τ 0 by omega] at b2
    rw [show (τ 0 + 3 * τ 1 + 9 * τ 2) / 3 % 3 = τ 1 by omega] at b3
    rw [show (τ 0 + 3 * τ 1 + 9 * τ 2) / 9 = τ 2 by omega] at b4
    refine ⟨r', by exact b1, fun t ht => ?_⟩
    have e : t = 0 ∨ t = 1 ∨ t = 2 := by omega
    rcases e with rfl | rfl | rfl
    · exact b2
    · exact b3
    · exact b4
theorem rank_lt {u : Nat → Bool} {p N : Nat} (hp : p < N) (h : u p = true) : fb_ct u p < fb_ct u N := by
  have h1 := fb_ct_succ u p
  rw [if_pos h] at h1
  have := fb_ct_mono u (show p + 1 ≤ N by omega)
  omega
theorem perm_ex {u1 u2 : Nat → Bool} {φ : Nat → Nat} {U r : Nat} (hU : U < 4) (hr : r < fac U) (c1 : fb_ct u1 48 = U) (c2 : fb_ct u2 48 = U) (h : ∀ p, p < 48 → u2 p = true → φ p < 48 ∧ u1 (φ p) = true ∧ φ (φ p) = p) : ∃ r', r' < fac U ∧ ∀ p, p < 48 → u2 p = true → od U r' (fb_ct u2 p) = od U r (fb_ct u1 (φ p)) := by
  have hn : ∀ t, t < U → nth u2 t 48 < 48 ∧ u2 (nth u2 t 48) = true ∧ fb_ct u2 (nth u2 t 48) = t := fun t ht => nth_sp (by rw [c2]; exact ht)
  obtain ⟨r', a1, a2⟩ := od_perm (τ := fun t => fb_ct u1 (φ (nth u2 t 48))) hU hr (fun t ht => by
    obtain ⟨b1, b2, b3⟩ := hn t ht
    obtain ⟨d1, d2, _⟩ := h _ b1 b2
    have := rank_lt d1 d2
    rw [c1] at this
    exact this) (fun s t hs ht e => by
    obtain ⟨b1, b2, b3⟩ := hn s hs
    obtain ⟨b1', b2', b3'⟩ := hn t ht
    obtain ⟨d1, d2, d3⟩ := h _ b1 b2
    obtain ⟨d1', d2', d3'⟩ := h _ b1' b2'
    have e2 := fb_ct_kth_one d2 d2' e
    have e3 : nth u2 s 48 = nth u2 t 48 := by rw [← d3, ← d3', e2]
    rw [← b3, ← b3', e3])
  refine ⟨r', a1, fun p hp hu => ?_⟩
  have ht : fb_ct u2 p < U := by rw [← c2]; exact rank_lt hp hu
  have := a2 _ ht
  rw [show nth u2 (fb_ct u2 p) 48 = p from nth_of hu hp] at this
  exact this
/-- the place of a card in the heap turned about -/
def sgm (S : Nat → Nat) (tc c x : Nat) : Nat := if c = tc then S 1 * (mmS S c - 1 - x / S 1) + x % S 1 else x
def phT (S : Nat → Nat) (tc p : Nat) : Nat := 12 * (p / 12) + sgm S tc (p / 12) (p % 12)
def STn (S : Nat → Nat) (tc i : Nat) : Nat := if 16 ≤ i ∧ i < 64 ∧ vlS S (i - 16) = true then S (16 + phT S tc (i - 16)) else S i
theorem sgm_lt {S : Nat → Nat} {tc c x : Nat} (w1 : 2 ≤ S 1) (w2 : S 1 ≤ 4) (hs : S (12 + c) = S 1 * mmS S c) (hx : x < S (12 + c)) : sgm S tc c x < S (12 + c) ∧ sgm S tc c (sgm S tc c x) = x := by
  unfold sgm
  by_cases y : c = tc
  · rw [if_pos y, if_pos y]
    have e : S 1 = 2 ∨ S 1 = 3 ∨ S 1 = 4 := by omega
    generalize mmS S c = M at *
    rcases e with e | e | e <;> rw [e] at hs ⊢ <;> omega
  · rw [if_neg y, if_neg y]
    exact ⟨hx, rfl⟩
theorem sgm_k {S : Nat → Nat} {tc c i j : Nat} (w1 : 2 ≤ S 1) (w2 : S 1 ≤ 4) (hi : i < mmS S c) (hj : j < S 1) : sgm S tc c (S 1 * i + j) = S 1 * (if c = tc ∧ c < 4 then mmS S c - 1 - i else i) + j ∨ ¬ c < 4 := by
  by_cases h4 : c < 4
  case neg => exact Or.inr h4
  refine Or.inl ?_
  unfold sgm
  by_cases y : c = tc
  · rw [if_pos y, if_pos ⟨y, h4⟩, Nat.mul_add_div (by omega), Nat.div_eq_of_lt hj, Nat.add_zero, Nat.mul_add_mod, Nat.mod_eq_of_lt hj]
  · rw [if_neg y, if_neg (fun t => y t.1)]
theorem ph_sp {S : Nat → Nat} {tc p : Nat} (wg : WG S) (wt : WT S) (h9 : S 9 = 1) (hp : p < 48) (hv : vlS S p = true) : phT S tc p < 48 ∧ vlS S (phT S tc p) = true ∧ phT S tc (phT S tc p) = p ∧ (phT S tc p) / 12 = p / 12 := by
  have hv' := hv
  unfold vlS at hv
  rw [decide_eq_true_iff] at hv
  have hs12 := sz_12 wg wt h9 hv.1
  have hs : S (12 + p / 12) = S 1 * mmS S (p / 12) := by
    have := (wt.2 h9).1 _ hv.1
    unfold mmS
    rw [Nat.mul_comm]; exact this
  obtain ⟨s1, s2⟩ := sgm_lt (tc := tc) wg.1 wg.2.1 hs hv.2
  have e1 : (phT S tc p) / 12 = p / 12 := by unfold phT; omega
  have e2 : (phT S tc p) % 12 = sgm S tc (p / 12) (p % 12) := by unfold phT; omega
  refine ⟨by unfold phT; omega, ?_, ?_, e1⟩
  · unfold vlS
    rw [decide_eq_true_iff, e1, e2]
    exact ⟨hv.1, s1⟩
  · show 12 * ((phT S tc p) / 12) + sgm S tc ((phT S tc p) / 12) ((phT S tc p) % 12) = p
    rw [e1, e2, s2]
    omega
theorem STn_o {S : Nat → Nat} {tc i : Nat} (h : i < 16 ∨ 64 ≤ i) : STn S tc i = S i := by unfold STn; rw [if_neg (by omega)]
theorem STn_p {S : Nat → Nat} {tc p : Nat} (hp : p < 48) (hv : vlS S p = true) : STn S tc (16 + p) = S (16 + phT S tc p) := by
  unfold STn
  rw [if_pos ⟨by omega, by omega, by rw [show 16 + p - 16 = p by omega]; exact hv⟩, show 16 + p - 16 = p by omega]
theorem vl_T {S : Nat → Nat} {tc : Nat} (wg : WG S) : vlS (STn S tc) = vlS S := by
  funext p
  unfold vlS
  rw [STn_o (i := 1) (by omega)]
  by_cases y : p / 12 < S 1
  · have := wg.2.1
    rw [STn_o (i := 12 + p / 12) (by omega)]
  · rw [decide_eq_false (fun t => y t.1), decide_eq_false (fun t => y t.1)]
theorem un_T {S : Nat → Nat} {tc p : Nat} (wg : WG S) (wt : WT S) (h9 : S 9 = 1) (hp : p < 48) (hv : vlS S p = true) : unS (STn S tc) p = unS S (phT S tc p) := by
  unfold unS
  rw [vl_T wg, hv, STn_p hp hv, (ph_sp wg wt h9 hp hv).2.1]
theorem ms_T {S : Nat → Nat} {tc : Nat} (wg : WG S) (wt : WT S) (h9 : S 9 = 1) : msS (STn S tc) = msS S := by
  funext x
  unfold msS
  rw [STn_o (i := 3) (by omega)]
  congr 2
  unfold snS
  have key : 0 < fb_ct (atS (STn S tc) x) 48 ↔ 0 < fb_ct (atS S x) 48 := by
    rw [fb_ct_pos, fb_ct_pos]
    constructor
    · rintro ⟨p, h1, h2⟩
      unfold atS at h2
      rw [vl_T wg, Bool.and_eq_true, decide_eq_true_iff] at h2
      obtain ⟨a1, a2, a3, a4⟩ := ph_sp (tc := tc) wg wt h9 h1 h2.1
      rw [STn_p h1 h2.1] at h2
      exact ⟨_, a1, by unfold atS; rw [a2, decide_eq_true h2.2]; rfl⟩
    · rintro ⟨p, h1, h2⟩
      unfold atS at h2
      rw [Bool.and_eq_true, decide_eq_true_iff] at h2
      obtain ⟨a1, a2, a3, a4⟩ := ph_sp (tc := tc) wg wt h9 h1 h2.1
      refine ⟨_, a1, ?_⟩
      unfold atS
      rw [vl_T wg, a2, STn_p a1 a2, a3, decide_eq_true h2.2]
      rfl
  by_cases y : 0 < fb_ct (atS S x) 48
  · rw [decide_eq_true y, decide_eq_true (key.mpr y)]
  · rw [decide_eq_false y, decide_eq_false (fun t => y (key.mp t))]
theorem uc_T {S : Nat → Nat} {tc : Nat} (wg : WG S) (wt : WT S) (h9 : S 9 = 1) : uc (STn S tc) = uc S := by
  have w2 := wg.2.1
  have e1 : uc (STn S tc) = fb_ct (unS (STn S tc)) 48 := by
    have h := ct_48 (S := STn S tc) (P := fun p => decide (16 ≤ STn S tc (16 + p))) (by rw [STn_o (i := 1) (by omega)]; exact w2) (fun c hc => by
      rw [STn_o (i := 1) (by omega)] at hc
      rw [STn_o (i := 12 + c) (by omega)]
      exact sz_12 wg wt h9 hc)
    unfold unS uc
    rw [h]
    simp only [Nat.add_assoc]
  rw [e1, ← un_48 wg wt h9]
  have hun : ∀ p, unS S p = true → vlS S p = true := fun p h => by unfold unS at h; rw [Bool.and_eq_true] at h; exact h.1
  have hun2 : ∀ p, unS (STn S tc) p = true → vlS S p = true := fun p h => by unfold unS at h; rw [vl_T wg, Bool.and_eq_true] at h; exact h.1
  refine Nat.le_antisymm (ct_inj (σ := phT S tc) (fun i hi h => ?_) (fun i j hi hj h1 h2 e => ?_)) (ct_inj (σ := phT S tc) (fun i hi h => ?_) (fun i j hi hj h1 h2 e => ?_))
  · have hv := hun2 i h
    exact ⟨(ph_sp wg wt h9 hi hv).1, by rw [← un_T wg wt h9 hi hv]; exact h⟩
  · rw [← (ph_sp (tc := tc) wg wt h9 hi (hun2 i h1)).2.2.1, e, (ph_sp (tc := tc) wg wt h9 hj (hun2 j h2)).2.2.1]
  · obtain ⟨a1, a2, a3, a4⟩ := ph_sp (tc := tc) wg wt h9 hi (hun i h)
    exact ⟨a1, by rw [un_T wg wt h9 a1 a2, a3]; exact h⟩
  · rw [← (ph_sp (tc := tc) wg wt h9 hi (hun i h1)).2.2.1, e, (ph_sp (tc := tc) wg wt h9 hj (hun j h2)).2.2.1]
theorem WG_T {S : Nat → Nat} {tc : Nat} (wg : WG S) : WG (STn S tc) := by
  unfold WG
  rw [STn_o (i := 1) (by omega), STn_o (i := 2) (by omega), STn_o (i := 3) (by omega), STn_o (i := 4) (by omega), STn_o (i := 5) (by omega), STn_o (i := 6) (by omega), STn_o (i := 7) (by omega), STn_o (i := 8) (by omega)]
  exact wg
theorem WC_T {S : Nat → Nat} {tc : Nat} (wc : WC S) : WC (STn S tc) := by
  have hk : ∀ j, 64 ≤ j → STn S tc j = S j := fun j hj => STn_o (Or.inr hj)
  unfold WC at *
  rw [STn_o (i := 10) (by omega)]
  refine ⟨wc.1, fun k hk2 => ?_⟩
  have := wc.2 k hk2
  unfold WK at *
  rw [STn_o (i := 1) (by omega), STn_o (i := 2) (by omega), STn_o (i := 3) (by omega), hk _ (by omega), hk _ (by omega), hk _ (by omega), hk _ (by omega)]
  exact this
theorem STn_c {S : Nat → Nat} {tc c i : Nat} (wg : WG S) (wt : WT S) (h9 : S 9 = 1) (hc : c < S 1) (hi : i < S (12 + c)) : STn S tc (16 + 12 * c + i) = S (16 + 12 * c + sgm S tc c i) ∧ sgm S tc c i < S (12 + c) ∧ sgm S tc c (sgm S tc c i) = i := by
  have hs12 := sz_12 wg wt h9 hc
  have w2 := wg.2.1
  have hs : S (12 + c) = S 1 * mmS S c := by
    have := (wt.2 h9).1 _ hc
    unfold mmS
    rw [Nat.mul_comm]; exact this
  obtain ⟨s1, s2⟩ := sgm_lt (tc := tc) wg.1 w2 hs hi
  refine ⟨?_, s1, s2⟩
  have hv : vlS S (12 * c + i) = true := by rw [vl_ci (by omega), decide_eq_true ⟨hc, hi⟩]
  have := STn_p (tc := tc) (show 12 * c + i < 48 by omega) hv
  rw [show 16 + 12 * c + i = 16 + (12 * c + i) by omega, this]
  unfold phT
  rw [show (12 * c + i) / 12 = c by omega, show (12 * c + i) % 12 = i by omega]
  congr 1
  omega
theorem WT_T {S : Nat → Nat} {tc : Nat} (wg : WG S) (wt : WT S) (h9 : S 9 = 1) : WT (STn S tc) := by
  have w2 := wg.2.1
  obtain ⟨t1, t2, t3, t4, t5⟩ := wt.2 h9
  unfold WT
  rw [STn_o (i := 9) (by omega), STn_o (i := 1) (by omega), STn_o (i := 2) (by omega), STn_o (i := 3) (by omega), uc_T wg wt h9]
  refine ⟨wt.1, fun _ => ⟨fun c hc => ?_, ?_, fun c i hc hi => ?_, fun c i d j hc hi hd hj h1 h2 => ?_, t5⟩⟩
  · rw [STn_o (i := 12 + c) (by omega)]; exact t1 c hc
  · rw [← t2]
    exact fb_sm_cong fun c hc => STn_o (by omega)
  · rw [STn_o (i := 12 + c) (by omega)] at hi
    obtain ⟨a1, a2, a3⟩ := STn_c (tc := tc) wg wt h9 hc hi
    rw [a1]
    exact t3 c _ hc a2
  · rw [STn_o (i := 12 + c) (by omega)] at hi
    rw [STn_o (i := 12 + d) (by omega)] at hj
    obtain ⟨a1, a2, a3⟩ := STn_c (tc := tc) wg wt h9 hc hi
    obtain ⟨b1, b2, b3⟩ := STn_c (tc := tc) wg wt h9 hd hj
    rw [a1] at h1 h2
    rw [b1] at h2
    obtain ⟨e1, e2⟩ := t4 c _ d _ hc a2 hd b2 h1 h2
    subst e1
    refine ⟨rfl, ?_⟩
    rw [← a3, ← b3, e2]
