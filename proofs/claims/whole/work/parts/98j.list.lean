/-! SEARCH: the lists of what is not seen -/
theorem lu_l22 {D : Nat} {q : Nat → Bool} (hD : D < 2 ^ 31) (hq : ∀ x, x < 16 → D.testBit x = q x) : ∀ (r x nf : Nat) (m : rn_Mem), x + r = 16 → r < nf → (∀ y, y < x → q y = true → fb_ct q y < 3 → m.1 66 (fb_ct q y) = nI y) → fb_ct q x ≤ 3 → ∃ m2, se_listUnseen_l22 (nI D) nf (nI (fb_ct q x)) (nI x) m = some m2 ∧ (∀ y, y < 16 → q y = true → fb_ct q y < 3 → m2.1 66 (fb_ct q y) = nI y) ∧ m2.2 = m.2 ∧ ∀ p, p ≠ 66 → m2.1 p = m.1 p := by
  intro r
  induction r with
  | zero =>
    intro x nf m e hnf hI h3
    obtain ⟨nf, rfl⟩ : ∃ e, nf = e + 1 := ⟨nf - 1, by omega⟩
    obtain rfl : x = 16 := by omega
    refine ⟨m, ?_, hI, rfl, fun _ _ => rfl⟩
    rw [se_listUnseen_l22, if_neg (by rw [k16, nI_ltI (by omega) (by omega)]; omega)]
  | succ r ih =>
    intro x nf m e hnf hI h3
    obtain ⟨nf, rfl⟩ : ∃ e, nf = e + 1 := ⟨nf - 1, by omega⟩
    by_cases z : fb_ct q x < 3
    · have hs := fb_ct_succ q x
      by_cases y : q x = true
      · rw [if_pos y] at hs
        have hI2 : ∀ t, t < x + 1 → q t = true → fb_ct q t < 3 → (rm_i m 66 (fb_ct q x) (nI x)).1 66 (fb_ct q t) = nI t := by
          intro t h1 h2 h4
          rw [mi_get]
          by_cases s : t = x
          · rw [s, if_pos ⟨rfl, rfl⟩]
          · have hne : fb_ct q t ≠ fb_ct q x := fun u => s (fb_ct_kth_one h2 y u)
            rw [if_neg (fun u => hne u.2)]
            exact hI t (by omega) h2 h4
        obtain ⟨m2, p1, p2, p3, p4⟩ := ih (x + 1) nf (rm_i m 66 (fb_ct q x) (nI x)) (by omega) (by omega) hI2 (by omega)
        refine ⟨m2, ?_, p2, p3, fun p hp => by rw [p4 p hp]; funext i; rw [mi_get, if_neg (fun t => hp t.1)]⟩
        rw [se_listUnseen_l22, if_pos (by rw [k16, nI_ltI (by omega) (by omega)]; omega), if_pos (by rw [k3, nI_ltI (by omega) (by omega)]; omega), if_neg (by rw [bit_0 hD (by omega), hq x (by omega), y]; decide), if_pos ((in_n (by omega)).mpr z), nI_n (by omega)]
        simp only [Option.bind_some, nI_1]
        rw [← hs]
        exact p1
      · rw [if_neg y] at hs
        have y' : q x = false := by cases h : q x with | true => exact absurd h y | false => rfl
        obtain ⟨m2, p1, p2, p3, p4⟩ := ih (x + 1) nf m (by omega) (by omega) (fun t h1 h2 h4 => by
          by_cases s : t = x
          · rw [s] at h2; exact absurd h2 y
          · exact hI t (by omega) h2 h4) (by omega)
        refine ⟨m2, ?_, p2, p3, p4⟩
        rw [se_listUnseen_l22, if_pos (by rw [k16, nI_ltI (by omega) (by omega)]; omega), if_pos (by rw [k3, nI_ltI (by omega) (by omega)]; omega), if_pos (by rw [bit_0 hD (by omega), hq x (by omega), y'])]
        simp only [Option.bind_some, nI_1]
        rw [hs, Nat.add_zero] at p1
        exact p1
    · refine ⟨m, ?_, fun t h1 h2 h4 => ?_, rfl, fun _ _ => rfl⟩
      · rw [se_listUnseen_l22, if_pos (by rw [k16, nI_ltI (by omega) (by omega)]; omega), if_neg (by rw [k3, nI_ltI (by omega) (by omega)]; omega)]
      · by_cases s : t < x
        · exact hI t s h2 h4
        · have := fb_ct_mono q (show x ≤ t by omega)
          omega
theorem un_ci {S : Nat → Nat} {c i : Nat} (hi : i < 12) : unS S (12 * c + i) = true ↔ (c < S 1 ∧ i < S (12 + c)) ∧ 16 ≤ S (16 + 12 * c + i) := by
  unfold unS
  rw [vl_ci hi, Bool.and_eq_true, decide_eq_true_iff, decide_eq_true_iff, Nat.add_assoc]
theorem lu_l75 {S : Nat → Nat} {c : Nat} (hc : c < S 1) (hn : S 1 ≤ 4) (hs : S (12 + c) ≤ 12) (h48 : fb_ct (unS S) 48 ≤ 3) : ∀ (r i nf : Nat) (m : rn_Mem), i + r = S (12 + c) → r < nf → m.1 54 c = nI (S (12 + c)) → (∀ i, i < S (12 + c) → m.1 56 (12 * c + i) = cC (S (16 + 12 * c + i))) → (∀ p, p < 12 * c + i → unS S p = true → m.1 65 (fb_ct (unS S) p) = nI p) → ∃ m2, se_listUnseen_l75 (nI c) nf (nI (fb_ct (unS S) (12 * c + i))) (nI i) m = some (nI (fb_ct (unS S) (12 * c + 12)), m2) ∧ (∀ p, p < 12 * c + 12 → unS S p = true → m2.1 65 (fb_ct (unS S) p) = nI p) ∧ m2.2 = m.2 ∧ ∀ p, p ≠ 65 → m2.1 p = m.1 p := by
  intro r
  induction r with
  | zero =>
    intro i nf m e hnf h54 h56 hI
    obtain ⟨nf, rfl⟩ : ∃ e, nf = e + 1 := ⟨nf - 1, by omega⟩
    have hno : ∀ k, k < 12 - i → unS S (12 * c + i + k) = false := by
      intro k hk
      cases h : unS S (12 * c + i + k) with
      | false => rfl
      | true =>
        rw [Nat.add_assoc, un_ci (by omega)] at h
        omega
    have hct : fb_ct (unS S) (12 * c + 12) = fb_ct (unS S) (12 * c + i) := by
      have : fb_ct (unS S) (12 * c + i + (12 - i)) = fb_ct (unS S) (12 * c + i) := by
        rw [fb_ct_split, fb_ct_zero.mpr hno, Nat.add_zero]
      rw [show 12 * c + i + (12 - i) = 12 * c + 12 by omega] at this
      exact this
    refine ⟨m, ?_, fun p hp hu => ?_, rfl, fun _ _ => rfl⟩
    · rw [se_listUnseen_l75, if_pos ((in_n (by omega)).mpr (by omega)), nI_n (by omega), h54, if_neg (by rw [nI_ltI (by omega) (by omega)]; omega), hct]
    · by_cases z : p < 12 * c + i
      · exact hI p z hu
      · have := hno (p - (12 * c + i)) (by omega)
        rw [show 12 * c + i + (p - (12 * c + i)) = p by omega, hu] at this
        exact absurd this (by decide)
  | succ r ih =>
    intro i nf m e hnf h54 h56 hI
    obtain ⟨nf, rfl⟩ : ∃ e, nf = e + 1 := ⟨nf - 1, by omega⟩
    have hle : ∀ p, p ≤ 48 → fb_ct (unS S) p ≤ 3 := fun p hp => Nat.le_trans (fb_ct_mono _ hp) h48
    have hi3 := hle (12 * c + i) (by omega)
    by_cases z : fb_ct (unS S) (12 * c + i) < 3
    · have hsu := fb_ct_succ (unS S) (12 * c + i)
      have hcard : ta_cardAt nf 53 (nI c) (nI i) m = some (cC (S (16 + 12 * c + i)), m) := by
        unfold ta_cardAt
        rw [k12, pk_mul, nI_add, if_pos ((in_n (by omega)).mpr (by omega)), nI_n (by omega), show c * 12 + i = 12 * c + i by omega, h56 i (by omega)]
      have hpos : ∀ {α : Type} {a b : α}, (if rn_in (nI c) 4 = true then a else b) = a := fun {α a b} => if_pos ((in_n (by omega)).mpr (by omega))
      by_cases y : 16 ≤ S (16 + 12 * c + i)
      · have hu : unS S (12 * c + i) = true := (un_ci (by omega)).mpr ⟨⟨hc, by omega⟩, y⟩
        rw [if_pos hu] at hsu
        have hI2 : ∀ p, p < 12 * c + (i + 1) → unS S p = true → (rm_i m 65 (fb_ct (unS S) (12 * c + i)) (nI (12 * c + i))).1 65 (fb_ct (unS S) p) = nI p := by
          intro p h1 h2
          rw [mi_get]
          by_cases s : p = 12 * c + i
          · rw [s, if_pos ⟨rfl, rfl⟩]
          · have hne : fb_ct (unS S) p ≠ fb_ct (unS S) (12 * c + i) := fun u => s (fb_ct_kth_one h2 hu u)
            rw [if_neg (fun u => hne u.2)]
            exact hI p (by omega) h2
        obtain ⟨m2, p1, p2, p3, p4⟩ := ih (i + 1) nf (rm_i m 65 (fb_ct (unS S) (12 * c + i)) (nI (12 * c + i))) (by omega) (by omega) (by rw [mi_get, if_neg (by omega)]; exact h54) (fun k hk => by rw [mi_get, if_neg (by omega)]; exact h56 k hk) hI2
        refine ⟨m2, ?_, p2, p3, fun p hp => by rw [p4 p hp]; funext k; rw [mi_get, if_neg (fun t => hp t.1)]⟩
        rw [se_listUnseen_l75, hpos, nI_n (by omega), h54, if_pos (by rw [nI_ltI (by omega) (by omega)]; omega), if_pos (by rw [k3, nI_ltI (by omega) (by omega)]; omega), hcard, Option.bind_some]
        simp only []
        rw [if_pos (cC_4.mpr y), if_pos ((in_n (by omega)).mpr z), nI_n (by omega), k12, pk_mul, nI_add, show c * 12 + i = 12 * c + i by omega]
        simp only [Option.bind_some, nI_1]
        rw [← hsu]
        exact p1
      · have hu : ¬ unS S (12 * c + i) = true := fun t => y ((un_ci (by omega)).mp t).2
        rw [if_neg hu] at hsu
        obtain ⟨m2, p1, p2, p3, p4⟩ := ih (i + 1) nf m (by omega) (by omega) h54 h56 (fun p h1 h2 => by
          by_cases s : p = 12 * c + i
          · rw [s] at h2; exact absurd h2 hu
          · exact hI p (by omega) h2)
        refine ⟨m2, ?_, p2, p3, p4⟩
        rw [se_listUnseen_l75, hpos, nI_n (by omega), h54, if_pos (by rw [nI_ltI (by omega) (by omega)]; omega), if_pos (by rw [k3, nI_ltI (by omega) (by omega)]; omega), hcard, Option.bind_some]
        simp only []
        rw [if_neg (fun t => y (cC_4.mp t))]
        simp only [Option.bind_some, nI_1]
        rw [← Nat.add_assoc, hsu, Nat.add_zero] at p1
        exact p1
    · have h12 := hle (12 * c + 12) (by omega)
      have hm := fb_ct_mono (unS S) (show 12 * c + i ≤ 12 * c + 12 by omega)
      refine ⟨m, ?_, fun p hp hu => ?_, rfl, fun _ _ => rfl⟩
      · rw [se_listUnseen_l75, if_pos ((in_n (by omega)).mpr (by omega)), nI_n (by omega), h54, if_pos (by rw [nI_ltI (by omega) (by omega)]; omega), if_neg (by rw [k3, nI_ltI (by omega) (by omega)]; omega), show fb_ct (unS S) (12 * c + 12) = fb_ct (unS S) (12 * c + i) by omega]
      · by_cases s : p < 12 * c + i
        · exact hI p s hu
        · have h1 := fb_ct_succ (unS S) p
          rw [if_pos hu] at h1
          have h2 := hle (p + 1) (by omega)
          have h3 := fb_ct_mono (unS S) (show 12 * c + i ≤ p by omega)
          omega
theorem lu_l61 {S : Nat → Nat} (hn : S 1 ≤ 4) (hs : ∀ c, c < S 1 → S (12 + c) ≤ 12) (h48 : fb_ct (unS S) 48 ≤ 3) : ∀ (r c nf : Nat) (m : rn_Mem), c + r = S 1 → r + 20 < nf → m.1 52 1 = nI (S 1) → (∀ c, c < S 1 → m.1 54 c = nI (S (12 + c))) → (∀ c i, c < S 1 → i < S (12 + c) → m.1 56 (12 * c + i) = cC (S (16 + 12 * c + i))) → (∀ p, p < 12 * c → unS S p = true → m.1 65 (fb_ct (unS S) p) = nI p) → ∃ m2, se_listUnseen_l61 nf (nI (fb_ct (unS S) (12 * c))) (nI c) m = some m2 ∧ (∀ p, p < 12 * S 1 → unS S p = true → m2.1 65 (fb_ct (unS S) p) = nI p) ∧ m2.2 = m.2 ∧ ∀ p, p ≠ 65 → m2.1 p = m.1 p := by
  intro r
  induction r with
  | zero =>
    intro c nf m e hnf h52 h54 h56 hI
    obtain ⟨nf, rfl⟩ : ∃ e, nf = e + 1 := ⟨nf - 1, by omega⟩
    obtain rfl : c = S 1 := by omega
    refine ⟨m, ?_, hI, rfl, fun _ _ => rfl⟩
    rw [se_listUnseen_l61, h52, if_neg (by rw [nI_ltI (by omega) (by omega)]; omega)]
  | succ r ih =>
    intro c nf m e hnf h52 h54 h56 hI
    obtain ⟨nf, rfl⟩ : ∃ e, nf = e + 1 := ⟨nf - 1, by omega⟩
    have hsc := hs c (by omega)
    obtain ⟨m1, q1, q2, q3, q4⟩ := lu_l75 (show c < S 1 by omega) hn hsc h48 (S (12 + c)) 0 nf m (by omega) (by omega) (h54 c (by omega)) (fun i hi => h56 c i (by omega) hi) hI
    obtain ⟨m2, p1, p2, p3, p4⟩ := ih (c + 1) nf m1 (by omega) (by omega) (by rw [q4 52 (by omega)]; exact h52) (fun d hd => by rw [q4 54 (by omega)]; exact h54 d hd) (fun d i hd hi => by rw [q4 56 (by omega)]; exact h56 d i hd hi) q2
    refine ⟨m2, ?_, p2, by rw [p3, q3], fun p hp => by rw [p4 p hp, q4 p hp]⟩
    rw [se_listUnseen_l61, h52, if_pos (by rw [nI_ltI (by omega) (by omega)]; omega), show se_listUnseen_l75 (nI c) nf (nI (fb_ct (unS S) (12 * c))) 0 m = some (nI (fb_ct (unS S) (12 * c + 12)), m1) from q1]
    simp only [Option.bind_some, nI_1]
    exact p1
/-- the search's heaps, as taken -/
def SH (S : Nat → Nat) (m : rn_Mem) : Prop := cGa S (m.1 52) ∧ S 0 = 1 ∧ S 9 = 1 ∧ CLm S 57 m ∧ cTa S (m.1 53) (m.1 54) (m.1 55) (m.1 56)
theorem listUnseen_sp {S : Nat → Nat} {nf : Nat} {m : rn_Mem} (hnf : 60 < nf) (wg : WG S) (wt : WT S) (hH : SH S m) : ∃ m2, se_listUnseen nf m = some m2 ∧ (∀ s, s < uc S → m2.1 66 s = nI (nth (msS S) s 16)) ∧ (∀ s, s < uc S → m2.1 65 s = nI (nth (unS S) s 48)) ∧ m2.2 = m.2 ∧ ∀ p, p ≠ 65 → p ≠ 66 → m2.1 p = m.1 p := by
  obtain ⟨hG, h0, h9, hC, hT⟩ := hH
  obtain ⟨_, g1, g2, g3, g4, g5, g6, g7, g8⟩ : True ∧ _ := ⟨trivial, hG.2 h0⟩
  obtain ⟨t1, t2, t3, B, b1, b2, b3⟩ := hT.2 h9
  have hn : S 1 ≤ 4 := wg.2.1
  have h3 : S 3 < 65536 := wg.2.2.2.2.2.1
  have hs : ∀ c, c < S 1 → S (12 + c) ≤ 12 := fun c hc => sz_12 wg wt h9 hc
  have hu3 : uc S ≤ 3 := (wt.2 h9).2.2.2.2
  have hD : bd (S 3) B < 2 ^ 31 := by
    have : bd (S 3) B ≤ S 3 := or_le fun x hx => by
      rw [bd_bit, Bool.and_eq_true] at hx
      exact hx.1
    omega
  have hq : ∀ x, x < 16 → (bd (S 3) B).testBit x = msS S x := by
    intro x hx
    rw [bd_bit]
    unfold msS
    congr 2
    have e : B.testBit x = true ↔ snS S x = true := by rw [b3 x hx, sn_iff hn hs]
    cases h1 : B.testBit x with
    | true => exact (e.mp h1).symm
    | false =>
      cases h2 : snS S x with
      | false => rfl
      | true => rw [e.mpr h2] at h1; exact absurd h1 (by decide)
  obtain ⟨m1, p1, p2, p3, p4⟩ := lu_l22 hD hq 16 0 nf m (by omega) (by omega) (fun y hy => absurd hy (Nat.not_lt_zero y)) (Nat.zero_le 3)
  obtain ⟨m2, q1, q2, q3, q4⟩ := lu_l61 hn hs (by rw [un_48 wg wt h9]; exact hu3) (S 1) 0 nf m1 (by omega) (by omega) (by rw [p4 52 (by omega)]; exact g1) (fun c hc => by rw [p4 54 (by omega)]; exact (t1 c hc).1) (fun c i hc hi => by rw [p4 56 (by omega)]; exact t2 c i hc hi) (fun p hp => absurd hp (Nat.not_lt_zero p))
  refine ⟨m2, ?_, fun s hs' => ?_, fun s hs' => ?_, by rw [q3, p3], fun p h1 h2 => by rw [q4 p h1, p4 p h2]⟩
  · unfold se_listUnseen
    rw [g3, b1, bd_n]
    simp only [Option.bind_some]
    rw [show se_listUnseen_l22 (nI (bd (S 3) B)) nf 0 0 m = some m1 from p1]
    simp only [Option.bind_some]
    rw [show se_listUnseen_l61 nf 0 0 m1 = some m2 from q1]
    rfl
  · obtain ⟨a1, a2, a3⟩ := nth_sp (p := msS S) (s := s) (N := 16) (by rw [msc_16 wg wt h9]; exact hs')
    have := p2 _ a1 a2 (by omega)
    rw [a3] at this
    rw [q4 66 (by omega)]
    exact this
  · obtain ⟨a1, a2, a3⟩ := nth_sp (p := unS S) (s := s) (N := 48) (by rw [un_48 wg wt h9]; exact hs')
    have hlt : ∀ p, unS S p = true → p < 12 * S 1 := by
      intro p hp
      unfold unS vlS at hp
      rw [Bool.and_eq_true, decide_eq_true_iff] at hp
      have := hp.1.1
      omega
    have := q2 _ (hlt _ a2) a2
    rw [a3] at this
    exact this
