/-! THE CALLS OF THE SEARCH: other games -/
def A456 (S T : Nat → Nat) : Prop := ∀ i, i ≠ 4 → i ≠ 5 → i ≠ 6 → T i = S i
theorem SO_A {S : Nat → Nat} {g : Nat} : A456 S (SO S g) := fun i h4 h5 h6 => by unfold SO; rw [if_neg h4, if_neg h5, if_neg h6]
theorem uc_A {S T : Nat → Nat} (h : A456 S T) : uc T = uc S := by
  have h1 := h 1 (by omega) (by omega) (by omega)
  have hc : ∀ c, T (12 + c) = S (12 + c) := fun c => h _ (by omega) (by omega) (by omega)
  have hp : ∀ c i, T (16 + 12 * c + i) = S (16 + 12 * c + i) := fun c i => h _ (by omega) (by omega) (by omega)
  unfold uc
  simp only [h1, hc, hp]
theorem WT_A {S T : Nat → Nat} (h : A456 S T) (wt : WT S) : WT T := by
  have h1 := h 1 (by omega) (by omega) (by omega)
  have h2 := h 2 (by omega) (by omega) (by omega)
  have h3 := h 3 (by omega) (by omega) (by omega)
  have h9 := h 9 (by omega) (by omega) (by omega)
  have hc : ∀ c, T (12 + c) = S (12 + c) := fun c => h _ (by omega) (by omega) (by omega)
  have hp : ∀ c i, T (16 + 12 * c + i) = S (16 + 12 * c + i) := fun c i => h _ (by omega) (by omega) (by omega)
  unfold WT at wt ⊢
  simp only [h1, h2, h3, h9, hc, hp, uc_A h]
  exact wt
theorem WC_A {S T : Nat → Nat} (h : A456 S T) (wc : WC S) : WC T := by
  have h1 := h 1 (by omega) (by omega) (by omega)
  have h2 := h 2 (by omega) (by omega) (by omega)
  have h3 := h 3 (by omega) (by omega) (by omega)
  have h10 := h 10 (by omega) (by omega) (by omega)
  have k0' : ∀ k, T (64 + 4 * k) = S (64 + 4 * k) := fun k => h _ (by omega) (by omega) (by omega)
  have k1' : ∀ k, T (65 + 4 * k) = S (65 + 4 * k) := fun k => h _ (by omega) (by omega) (by omega)
  have k2' : ∀ k, T (66 + 4 * k) = S (66 + 4 * k) := fun k => h _ (by omega) (by omega) (by omega)
  have k3' : ∀ k, T (67 + 4 * k) = S (67 + 4 * k) := fun k => h _ (by omega) (by omega) (by omega)
  unfold WC WK at wc ⊢
  simp only [h1, h2, h3, h10, k0', k1', k2', k3']
  exact wc
theorem SO_4 {S : Nat → Nat} {g : Nat} : SO S g 4 = if g < 6 then 4 else g / 6 - 1 := by unfold SO; rw [if_pos rfl]
theorem SO_5 {S : Nat → Nat} {g : Nat} : SO S g 5 = g / 2 % 3 := by unfold SO; rw [if_neg (by omega), if_pos rfl]
theorem SO_6 {S : Nat → Nat} {g : Nat} : SO S g 6 = g % 2 := by unfold SO; rw [if_neg (by omega), if_neg (by omega), if_pos rfl]
theorem WG_SO {S : Nat → Nat} {g : Nat} (hg : g < 30) (wg : WG S) : WG (SO S g) := by
  have h := SO_A (S := S) (g := g)
  have h1 := h 1 (by omega) (by omega) (by omega)
  have h2 := h 2 (by omega) (by omega) (by omega)
  have h3 := h 3 (by omega) (by omega) (by omega)
  have h7 := h 7 (by omega) (by omega) (by omega)
  have h8 := h 8 (by omega) (by omega) (by omega)
  obtain ⟨a1, a2, a3, a4, a5, a6, a7, a8, a9, a10, a11, a12⟩ := wg
  unfold WG
  rw [h1, h2, h3, h7, h8, SO_4, SO_5, SO_6]
  exact ⟨a1, a2, a3, a4, a5, a6, by split <;> omega, by omega, by omega, a10, a11, a12⟩
theorem XF_A {S T : Nat → Nat} (h : A456 S T) (r : Nat) : XF T r = XF S r := by
  have h1 := h 1 (by omega) (by omega) (by omega)
  have h3 := h 3 (by omega) (by omega) (by omega)
  have hc : ∀ c, T (12 + c) = S (12 + c) := fun c => h _ (by omega) (by omega) (by omega)
  have hp : ∀ p, T (16 + p) = S (16 + p) := fun p => h _ (by omega) (by omega) (by omega)
  have hv : vlS T = vlS S := by funext p; unfold vlS; rw [h1, hc]
  have hu : unS T = unS S := by funext p; unfold unS; rw [hv, hp]
  have hm : msS T = msS S := by
    funext x
    unfold msS snS
    rw [h3, show atS T x = atS S x from by funext p; unfold atS; rw [hv, hp]]
  funext c i j
  unfold XF
  rw [h1, hp, uc_A h, hu, hm]
theorem otP_iff {S : Nat → Nat} {g : Nat} : otP S g ↔ ∃ r w q, r < fac (uc S) ∧ GL (SO S g) (XF S r) w q := by
  unfold otP
  rw [uc_A SO_A]
  constructor
  · rintro ⟨r, w, q, h1, h2⟩
    rw [XF_A SO_A] at h2
    exact ⟨r, w, q, h1, h2⟩
  · rintro ⟨r, w, q, h1, h2⟩
    refine ⟨r, w, q, h1, ?_⟩
    rw [XF_A SO_A]
    exact h2
theorem brd_ss {S T : Nat → Nat} (h4 : T 4 = S 4) (h : (S 5 = 2 ∧ T 5 = 0) ∨ T 5 = 1) : ∀ x l z, (brd T x l).testBit z = true → (brd S x l).testBit z = true := by
  intro x l z hz
  unfold brd at hz ⊢
  rcases h with ⟨h1, h2⟩ | h2
  · rw [h1]
    rw [h2] at hz
    by_cases y : x / 4 = l / 4
    · rw [if_pos (Or.inr y), Nat.zero_testBit] at hz
      exact absurd hz (by decide)
    · rw [if_neg (by omega), if_neg (by omega)] at hz
      rw [if_neg (by omega)]
      split
      · rw [Nat.testBit_or, hz]; rfl
      · exact hz
  · rw [if_pos (Or.inl h2), Nat.zero_testBit] at hz
    exact absurd hz (by decide)
/-- a looser law lets no fewer plays -/
theorem ot_mono {S : Nat → Nat} {t l f f2 : Nat} (wg : WG S) (wt : WT S) (h9 : S 9 = 1) (ht : t < 5) (hl : l < 2) (hf : (f = 2 ∧ f2 = 0) ∨ (f = 0 ∧ f2 = 1)) (h : otP S (6 * t + 2 * f + l)) : otP S (6 * t + 2 * f2 + l) := by
  rw [otP_iff] at h ⊢
  obtain ⟨r, w, q, h1, h2⟩ := h
  refine ⟨r, w, q, h1, ?_⟩
  have wg1 := WG_SO (S := S) (g := 6 * t + 2 * f + l) (by omega) wg
  have hr' : r < fac (uc (SO S (6 * t + 2 * f + l))) := by rw [uc_A SO_A]; exact h1
  have hH := XF_HZ wg1 (WT_A SO_A wt) (by rw [SO_A 9 (by omega) (by omega) (by omega)]; exact h9) hr'
  rw [XF_A SO_A] at hH
  have e4 : SO S (6 * t + 2 * f2 + l) 4 = SO S (6 * t + 2 * f + l) 4 := by
    rw [SO_4, SO_4, show (6 * t + 2 * f2 + l) / 6 = (6 * t + 2 * f + l) / 6 by omega]
    by_cases y : t = 0
    · rw [if_pos (by omega), if_pos (by omega)]
    · rw [if_neg (by omega), if_neg (by omega)]
  have hA : AGL (SO S (6 * t + 2 * f + l)) (SO S (6 * t + 2 * f2 + l)) := by
    have ho : ∀ i, i ≠ 4 → i ≠ 5 → i ≠ 6 → SO S (6 * t + 2 * f2 + l) i = SO S (6 * t + 2 * f + l) i := fun i a b c => by rw [SO_A i a b c, SO_A i a b c]
    refine ⟨ho 1 (by omega) (by omega) (by omega), ho 2 (by omega) (by omega) (by omega), e4, ?_, ho 7 (by omega) (by omega) (by omega), ho 8 (by omega) (by omega) (by omega), ho 10 (by omega) (by omega) (by omega), fun c _ => ho _ (by omega) (by omega) (by omega), fun i hi => ho i (by omega) (by omega) (by omega)⟩
    rw [SO_6, SO_6]
    omega
  refine GL_ss hA (fun _ _ _ _ _ _ => rfl) wg1 hH (brd_ss e4 ?_) h2
  rw [SO_5, SO_5]
  omega
/-- what a search for one play leaves -/
def Kt (m m2 : rn_Mem) : Prop := (∀ p, p < 51 ∨ 101 < p → m2.1 p = m.1 p ∧ m2.2 p = m.2 p) ∧ m2.2 51 = m.2 51 ∧ m2.1 51 15 = m.1 51 15 ∧ m2.1 51 16 = m.1 51 16 ∧ m2.1 51 17 = m.1 51 17 ∧ m2.1 68 = m.1 68 ∧ m2.1 69 = m.1 69
theorem Kt.rf {m : rn_Mem} : Kt m m := ⟨fun _ _ => ⟨rfl, rfl⟩, rfl, rfl, rfl, rfl, rfl, rfl⟩
theorem Kt.tr {m m1 m2 : rn_Mem} (h : Kt m m1) (h2 : Kt m1 m2) : Kt m m2 := ⟨fun p hp => by rw [(h2.1 p hp).1, (h2.1 p hp).2]; exact h.1 p hp, by rw [h2.2.1, h.2.1], by rw [h2.2.2.1, h.2.2.1], by rw [h2.2.2.2.1, h.2.2.2.1], by rw [h2.2.2.2.2.1, h.2.2.2.2.1], by rw [h2.2.2.2.2.2.1, h.2.2.2.2.2.1], by rw [h2.2.2.2.2.2.2, h.2.2.2.2.2.2]⟩
theorem Kt.c {S V : Nat → Nat} {m m2 : rn_Mem} (h : Kt m m2) (hc : cS3 S V 3 m) : cS3 S V 3 m2 := cS3_k hc fun p h1 h2 => (h.1 p (by omega)).1
theorem SH_A {S : Nat → Nat} {g : Nat} {m : rn_Mem} (h : SH S m) : SH (SO S g) (rm_i (rm_i (rm_i m 52 4 (cT (SO S g 4))) 52 5 (nI (SO S g 5))) 52 6 (nI (SO S g 6))) := by
  obtain ⟨⟨g0, g1⟩, h0, h9, hC, hT⟩ := h
  obtain ⟨b1, b2, b3, b4, b5, b6, b7, b8⟩ := g1 h0
  have hA := SO_A (S := S) (g := g)
  have e : ∀ p, p ≠ 52 → (rm_i (rm_i (rm_i m 52 4 (cT (SO S g 4))) 52 5 (nI (SO S g 5))) 52 6 (nI (SO S g 6))).1 p = m.1 p := fun p hp => by funext i; rw [mi_get, if_neg (fun t => hp t.1), mi_get, if_neg (fun t => hp t.1), mi_get, if_neg (fun t => hp t.1)]
  have a0 := hA 0 (by omega) (by omega) (by omega)
  have a1 := hA 1 (by omega) (by omega) (by omega)
  have a2 := hA 2 (by omega) (by omega) (by omega)
  have a3 := hA 3 (by omega) (by omega) (by omega)
  have a7 := hA 7 (by omega) (by omega) (by omega)
  have a8 := hA 8 (by omega) (by omega) (by omega)
  have a9 := hA 9 (by omega) (by omega) (by omega)
  have a10 := hA 10 (by omega) (by omega) (by omega)
  refine ⟨⟨?_, fun _ => ?_⟩, by rw [a0]; exact h0, by rw [a9]; exact h9, ?_, ?_⟩
  · rw [a0]
    simp (disch := omega) only [mi_get, mc_get, mi_2, mc_2, mj_1, mj_get, if_pos, if_neg, true_and, and_true, if_true, and_self]
    exact g0
  · rw [a1, a2, a3, a7, a8]
    simp (disch := omega) only [mi_get, mc_get, mi_2, mc_2, mj_1, mj_get, if_pos, if_neg, true_and, and_true, if_true, and_self]
    exact ⟨b1, b2, b3, b7, b8⟩
  · unfold CLm cCl at hC ⊢
    rw [e 57 (by omega), e 58 (by omega), e 59 (by omega), e 60 (by omega), e 61 (by omega), a10]
    refine ⟨hC.1, fun k hk => ?_⟩
    rw [hA _ (by omega) (by omega) (by omega), hA _ (by omega) (by omega) (by omega), hA _ (by omega) (by omega) (by omega), hA _ (by omega) (by omega) (by omega)]
    exact hC.2 k hk
  · have hc : ∀ c, SO S g (12 + c) = S (12 + c) := fun c => hA _ (by omega) (by omega) (by omega)
    have hp : ∀ c i, SO S g (16 + 12 * c + i) = S (16 + 12 * c + i) := fun c i => hA _ (by omega) (by omega) (by omega)
    unfold cTa at hT ⊢
    rw [e 53 (by omega), e 54 (by omega), e 55 (by omega), e 56 (by omega)]
    simp only [a1, a9, hc, hp, uc_A hA]
    exact hT
/-- one search for a game -/
theorem game_sp {S V : Nat → Nat} {g nf : Nat} {m : rn_Mem} (hnf : 2000 < nf) (wg : WG S) (wt : WT S) (wc : WC S) (h0 : S 0 = 1) (h9 : S 9 = 1) (hg : g < 30) (hc : cS3 S V 3 m) : ∃ (m2 : rn_Mem) (b : Bool), ((se_take nf 3 m).bind fun m7 => (some (rm_i m7 52 4 (cT (SO S g 4)))).bind fun (m9 : rn_Mem) => (some (rm_i m9 52 5 (nI (SO S g 5)))).bind fun (m10 : rn_Mem) => (some (rm_i m10 52 6 (nI (SO S g 6)))).bind fun (m11 : rn_Mem) => (se_findsOne nf m11).bind fun (r13, m12) => some (r13, m12)) = some (if b = true then 1 else 0, m2) ∧ (b = true ↔ otP S g) ∧ Kt m m2 := by
  obtain ⟨m7, t1, t2, t3, t4⟩ := take_sp (nf := nf) wg wt wc h0 h9 hc
  have hS := SH_A (g := g) t2
  generalize hm11 : rm_i (rm_i (rm_i m7 52 4 (cT (SO S g 4))) 52 5 (nI (SO S g 5))) 52 6 (nI (SO S g 6)) = m11 at hS
  have e11 : ∀ p, p ≠ 52 → m11.1 p = m7.1 p := fun p hp => by rw [← hm11]; funext i; rw [mi_get, if_neg (fun t => hp t.1), mi_get, if_neg (fun t => hp t.1), mi_get, if_neg (fun t => hp t.1)]
  have e12 : m11.2 = m7.2 := by rw [← hm11]; rfl
  have hu : uc (SO S g) < 4 := by rw [uc_A SO_A]; have := (wt.2 h9).2.2.2.2; omega
  obtain ⟨m2, b, f1, f2, f3, f4, f5, f6, f7, f8, f9⟩ := findsOne_sp (nf := nf) (WG_SO hg wg) (WT_A SO_A wt) (WC_A SO_A wc) hnf hS
  refine ⟨m2, b, ?_, ?_, ?_⟩
  · rw [t1, Option.bind_some, Option.bind_some, Option.bind_some, Option.bind_some, hm11, f1, Option.bind_some]
  · rw [f2, LA_e hu]
    unfold otP GL
    have hk : ∀ b, rk b ≤ 0 ↔ b = 0 := fun b => by
      show 64 * cnt b + b ≤ 0 ↔ _
      constructor
      · intro h; omega
      · rintro rfl
        decide
    constructor
    · rintro ⟨r, w, q, h1, h2, h3, h4⟩
      exact ⟨r, w, q, h1, h2, h3, (hk _).mp h4⟩
    · rintro ⟨r, w, q, h1, h2, h3, h4⟩
      exact ⟨r, w, q, h1, h2, h3, (hk _).mpr h4⟩
  · refine ⟨fun p hp => ?_, ?_, ?_, ?_, ?_, ?_, ?_⟩
    · rw [(f9 p hp).1, (f9 p hp).2, e11 p (by omega), e12, t4 p (by omega), t3]; exact ⟨rfl, rfl⟩
    · rw [f3, e12, t3]
    · rw [f4, e11 51 (by omega), t4 51 (by omega)]
    · rw [f5, e11 51 (by omega), t4 51 (by omega)]
    · rw [f8, e11 51 (by omega), t4 51 (by omega)]
    · rw [f6, e11 68 (by omega), t4 68 (by omega)]
    · rw [f7, e11 69 (by omega), t4 69 (by omega)]
