/-! SEARCH: what is looked for -/
theorem SH_k {S : Nat → Nat} {m m2 : rn_Mem} (h : SH S m) (hk : ∀ p, 52 ≤ p → p ≤ 61 → m2.1 p = m.1 p) : SH S m2 := by
  obtain ⟨a1, a2, a3, a4, a5⟩ := h
  unfold CLm at a4
  refine ⟨by rw [hk 52 (by omega) (by omega)]; exact a1, a2, a3, ?_, ?_⟩
  · unfold CLm
    rw [hk 57 (by omega) (by omega), hk 58 (by omega) (by omega), hk 59 (by omega) (by omega), hk 60 (by omega) (by omega), hk 61 (by omega) (by omega)]
    exact a4
  · rw [hk 53 (by omega) (by omega), hk 54 (by omega) (by omega), hk 55 (by omega) (by omega), hk 56 (by omega) (by omega)]
    exact a5
/-- what was found: of all plays -/
def CA (S : Nat → Nat) (m : rn_Mem) : Prop := ∃ v u um, m.2 51 12 = lN u.1 ∧ m.2 51 13 = v ∧ m.2 51 14 = lN u.2.2.1 ∧ m.1 51 15 = nI u.2.2.2.1 ∧ m.1 51 16 = nI u.2.2.2.2 ∧ (0 < u.1 → v = lN u.2.1 ∧ u.2.1 < 2 ^ 62) ∧ u.1 < 2 ^ 31 ∧ (∀ t, t < 3 → m.1 68 t = nI (um t) ∧ um t < 65536) ∧ FN S (fac (uc S)) u um
/-- of breaches -/
def CB (S : Nat → Nat) (m : rn_Mem) : Prop := ∃ v : Nat → Nat, (∀ i, i ≤ S 1 → m.1 69 i = nI (v i) ∧ v i ≤ 99) ∧ ∀ i y, i ≤ S 1 → (v i ≤ y ↔ 99 ≤ y ∨ LA S (fac (uc S)) fun X w q => bkQ S X w q (S 2) = 0 ∧ (i = 0 ∨ (byQ S X w q (S 2)).testBit (4 * (i - 1)) = false) ∧ nbQ S X w q (S 2) ≤ y)
/-- of dropped clues -/
def CD (S : Nat → Nat) (m : rn_Mem) : Prop := ∃ v : Nat, v < 2000 ∧ m.1 51 17 = (if v = 448 then (-4) else nI v &&& 63) ∧ ∀ y, v ≤ y ↔ 448 ≤ y ∨ LA S (fac (uc S)) fun X w q => nbQ S X w q (S 2) = 0 ∧ rk (bkQ S X w q (S 2)) ≤ y
theorem findAll_l34_sp : ∀ (r s nf : Nat) (m : rn_Mem), s + r = 3 → r < nf → (∀ t, t < s → m.1 68 t = 0) → ∃ m2, se_findAll_l34 nf (nI s) m = some m2 ∧ (∀ t, t < 3 → m2.1 68 t = 0) ∧ m2.2 = m.2 ∧ ∀ p, p ≠ 68 → m2.1 p = m.1 p := by
  intro r
  induction r with
  | zero =>
    intro s nf m e hnf h
    obtain ⟨nf, rfl⟩ : ∃ e, nf = e + 1 := ⟨nf - 1, by omega⟩
    obtain rfl : s = 3 := by omega
    refine ⟨m, ?_, h, rfl, fun _ _ => rfl⟩
    rw [se_findAll_l34, if_neg (by rw [k3, nI_ltI (by omega) (by omega)]; omega)]
  | succ r ih =>
    intro s nf m e hnf h
    obtain ⟨nf, rfl⟩ : ∃ e, nf = e + 1 := ⟨nf - 1, by omega⟩
    obtain ⟨m2, p1, p2, p3, p4⟩ := ih (s + 1) nf (rm_i m 68 s 0) (by omega) (by omega) (fun t ht => by
      rw [mi_get]
      by_cases z : t = s
      · rw [if_pos ⟨rfl, z⟩]
      · rw [if_neg (fun y => z y.2)]; exact h t (by omega))
    refine ⟨m2, ?_, p2, p3, fun p hp => by rw [p4 p hp]; funext k; rw [mi_get, if_neg (fun t => hp t.1)]⟩
    rw [se_findAll_l34, if_pos (by rw [k3, nI_ltI (by omega) (by omega)]; omega), if_pos ((in_n (by omega)).mpr (by omega)), nI_n (by omega)]
    simp only [Option.bind_some, nI_1]
    exact p1
theorem Kz_o {e : Nat} {m m2 : rn_Mem} (h : Kz e m m2) (he : 51 ≤ e ∧ e ≤ 101) : ∀ p, p < 51 ∨ 101 < p → m2.1 p = m.1 p ∧ m2.2 p = m.2 p := fun p hp => ⟨by funext i; exact h.1 p i (by unfold Prun; omega) (by omega) (by omega) (by omega), h.2 p (by omega) (by omega)⟩
theorem findAll_sp {S : Nat → Nat} {nf : Nat} {m : rn_Mem} (wg : WG S) (wt : WT S) (wc : WC S) (hnf : 2000 < nf) (hH : SH S m) : ∃ m2, se_findAll nf m = some m2 ∧ CA S m2 ∧ m2.1 69 = m.1 69 ∧ m2.1 51 17 = m.1 51 17 ∧ ∀ p, p < 51 ∨ 101 < p → m2.1 p = m.1 p ∧ m2.2 p = m.2 p := by
  have hu3 : uc S ≤ 3 := (wt.2 hH.2.2.1).2.2.2.2
  have hf6 := fac_6 (uc S) (by omega)
  generalize hm6 : rm_i (rm_i (rm_j (rm_j (rm_j (rm_i m 51 10 0) 51 12 0) 51 13 (-1)) 51 14 0) 51 15 0) 51 16 0 = m6
  have g1 : ∀ p, p ≠ 51 → m6.1 p = m.1 p ∧ m6.2 p = m.2 p := by
    intro p hp
    rw [← hm6]
    constructor
    · funext i
      rw [mi_get, if_neg (fun t => hp t.1), mi_get, if_neg (fun t => hp t.1), mj_1, mj_1, mj_1, mi_get, if_neg (fun t => hp t.1)]
    · funext i
      rw [mi_2, mi_2, mj_get, if_neg (fun t => hp t.1), mj_get, if_neg (fun t => hp t.1), mj_get, if_neg (fun t => hp t.1), mi_2]
  have g2 : m6.1 51 17 = m.1 51 17 := by
    rw [← hm6, mi_get, if_neg (by omega), mi_get, if_neg (by omega), mj_1, mj_1, mj_1, mi_get, if_neg (by omega)]
  have g3 : InvA m6 ((0 : Int64), (-1 : Int64), 0, 0, 0) := by
    rw [← hm6]
    refine ⟨?_, ?_, ?_, ?_, ?_, ?_⟩
    · rw [mi_get, if_neg (by omega), mi_get, if_neg (by omega), mj_1, mj_1, mj_1, mi_get, if_pos ⟨rfl, rfl⟩]; rfl
    · rw [mi_2, mi_2, mj_get, if_neg (by omega), mj_get, if_neg (by omega), mj_get, if_pos ⟨rfl, rfl⟩]
    · rw [mi_2, mi_2, mj_get, if_neg (by omega), mj_get, if_pos ⟨rfl, rfl⟩]
    · rw [mi_2, mi_2, mj_get, if_pos ⟨rfl, rfl⟩]; rfl
    · rw [mi_get, if_neg (by omega), mi_get, if_pos ⟨rfl, rfl⟩]; rfl
    · rw [mi_get, if_pos ⟨rfl, rfl⟩]; rfl
  obtain ⟨m11, p1, p2, p3, p4⟩ := findAll_l34_sp 3 0 nf m6 (by omega) (by omega) (fun t ht => absurd ht (Nat.not_lt_zero t))
  have hH11 : SH S m11 := SH_k hH fun p h1 h2 => by rw [p4 p (by omega), (g1 p (by omega)).1]
  have hI11 : InvA m11 ((0 : Int64), (-1 : Int64), 0, 0, 0) := by
    unfold InvA at g3 ⊢
    rw [p4 51 (by omega), p3]
    exact g3
  obtain ⟨m2, v, u, um, q1, q2, q3, q4, q5, q6, q7⟩ := run_A wg wt wc hnf hH11 hI11 p2
  have hu1 : u.1 < 2 ^ 31 := by
    have : u.1 ≤ fac (uc S) * 100000000 := by
      rw [q7.1]
      exact fb_sm_bound fun k _ => Nat.le_of_lt (cL_lt wg)
    omega
  refine ⟨m2, ?_, ⟨v.2.1, u, um, ?_, q3.2.2.1, ?_, ?_, ?_, fun h => q4.2.2 h (by omega), hu1, q6, q7⟩, ?_, ?_, fun p hp => ?_⟩
  · unfold se_findAll
    simp only [Option.bind_some]
    rw [hm6, show se_findAll_l34 nf 0 m6 = some m11 from p1, Option.bind_some, q1]
    rfl
  · rw [q3.2.1, q4.1]
  · rw [q3.2.2.2.1, q4.2.1]
  · rw [q3.2.2.2.2.1, q4.2.1]
  · rw [q3.2.2.2.2.2, q4.2.1]
  · rw [q5, p4 69 (by omega), (g1 69 (by omega)).1]
  · rw [q2.1 51 17 (by unfold Prun; omega) (by omega) (by omega) (by omega), p4 51 (by omega), g2]
  · obtain ⟨a1, a2⟩ := Kz_o q2 (by omega) p hp
    exact ⟨by rw [a1, p4 p (by omega), (g1 p (by omega)).1], by rw [a2, p3, (g1 p (by omega)).2]⟩
theorem findFewest_l7_sp {n : Nat} (hn : n ≤ 4) : ∀ (r s nf : Nat) (m : rn_Mem), s + r = 5 → r < nf → m.1 52 1 = nI n → (∀ t, t < s → t ≤ n → m.1 69 t = nI 99) → ∃ m2, se_findFewest_l7 nf (nI s) m = some m2 ∧ (∀ t, t ≤ n → m2.1 69 t = nI 99) ∧ m2.2 = m.2 ∧ ∀ p, p ≠ 69 → m2.1 p = m.1 p := by
  intro r
  induction r with
  | zero =>
    intro s nf m e hnf h52 h
    obtain ⟨nf, rfl⟩ : ∃ e, nf = e + 1 := ⟨nf - 1, by omega⟩
    obtain rfl : s = 5 := by omega
    refine ⟨m, ?_, fun t ht => h t (by omega) ht, rfl, fun _ _ => rfl⟩
    rw [se_findFewest_l7, if_pos (by rw [k4, nI_ltI (by omega) (by omega)]; omega)]
  | succ r ih =>
    intro s nf m e hnf h52 h
    obtain ⟨nf, rfl⟩ : ∃ e, nf = e + 1 := ⟨nf - 1, by omega⟩
    have step : ∀ x : Int32, (s ≤ n → x = nI 99) → ∃ m2, se_findFewest_l7 nf (nI (s + 1)) (rm_i m 69 s x) = some m2 ∧ (∀ t, t ≤ n → m2.1 69 t = nI 99) ∧ m2.2 = m.2 ∧ ∀ p, p ≠ 69 → m2.1 p = m.1 p := by
      intro x hx
      obtain ⟨m2, p1, p2, p3, p4⟩ := ih (s + 1) nf (rm_i m 69 s x) (by omega) (by omega) (by rw [mi_get, if_neg (by omega)]; exact h52) (fun t ht htn => by
        rw [mi_get]
        by_cases z : t = s
        · rw [if_pos ⟨rfl, z⟩]; exact hx (by omega)
        · rw [if_neg (fun y => z y.2)]; exact h t (by omega) htn)
      exact ⟨m2, p1, p2, p3, fun p hp => by rw [p4 p hp]; funext k; rw [mi_get, if_neg (fun t => hp t.1)]⟩
    have hin : rn_in (nI s) 5 = true := (in_n (by omega)).mpr (by omega)
    by_cases z : n < s
    · obtain ⟨m2, p1, p2⟩ := step 0 (fun y => absurd y (by omega))
      refine ⟨m2, ?_, p2⟩
      rw [se_findFewest_l7, if_neg (by rw [k4, nI_ltI (by omega) (by omega)]; omega), h52, if_pos (by rw [nI_ltI (by omega) (by omega)]; exact z), Option.bind_some, if_pos hin, nI_n (by omega)]
      simp only [Option.bind_some, nI_1]
      exact p1
    · obtain ⟨m2, p1, p2⟩ := step 99 (fun _ => rfl)
      refine ⟨m2, ?_, p2⟩
      rw [se_findFewest_l7, if_neg (by rw [k4, nI_ltI (by omega) (by omega)]; omega), h52, if_neg (by rw [nI_ltI (by omega) (by omega)]; exact z), Option.bind_some, if_pos hin, nI_n (by omega)]
      simp only [Option.bind_some, nI_1]
      exact p1
theorem CA_k {S : Nat → Nat} {m m2 : rn_Mem} (h : CA S m) (h1 : m2.2 51 = m.2 51) (h2 : m2.1 51 15 = m.1 51 15) (h3 : m2.1 51 16 = m.1 51 16) (h4 : m2.1 68 = m.1 68) : CA S m2 := by
  unfold CA at *
  rw [h1, h2, h3, h4]
  exact h
theorem findFewest_sp {S : Nat → Nat} {nf : Nat} {m : rn_Mem} (wg : WG S) (wt : WT S) (wc : WC S) (hnf : 2000 < nf) (hH : SH S m) : ∃ m2, se_findFewest nf m = some m2 ∧ CB S m2 ∧ m2.2 51 = m.2 51 ∧ m2.1 51 15 = m.1 51 15 ∧ m2.1 51 16 = m.1 51 16 ∧ m2.1 68 = m.1 68 ∧ m2.1 51 17 = m.1 51 17 ∧ ∀ p, p < 51 ∨ 101 < p → m2.1 p = m.1 p ∧ m2.2 p = m.2 p := by
  have h52 : m.1 52 1 = nI (S 1) := (hH.1.2 hH.2.1).1
  obtain ⟨m9, p1, p2, p3, p4⟩ := findFewest_l7_sp wg.2.1 5 0 nf (rm_i m 51 10 2) (by omega) (by omega) (by rw [mi_get, if_neg (by omega)]; exact h52) (fun t ht => absurd ht (Nat.not_lt_zero t))
  have g1 : ∀ p, p ≠ 51 → p ≠ 69 → m9.1 p = m.1 p := fun p h1 h2 => by rw [p4 p h2]; funext i; rw [mi_get, if_neg (fun t => h1 t.1)]
  have g2 : ∀ i, i ≠ 10 → m9.1 51 i = m.1 51 i := fun i hi => by rw [p4 51 (by omega), mi_get, if_neg (fun t => hi t.2)]
  obtain ⟨m2, v, q1, q2, q3, q4, q5, q6, q7⟩ := run_B (v0 := fun _ => 99) wg wt wc hnf (SH_k hH fun p h1 h2 => g1 p (by omega) (by omega)) ⟨by rw [p4 51 (by omega), mi_get, if_pos ⟨rfl, rfl⟩]; rfl, fun i hi => ⟨p2 i hi, Nat.le_refl 99⟩⟩
  refine ⟨m2, ?_, ⟨v, q3.2, q7⟩, by rw [q4, p3]; rfl, by rw [q5, g2 15 (by omega)], by rw [q6, g2 16 (by omega)], ?_, ?_, fun p hp => ?_⟩
  · unfold se_findFewest
    rw [Option.bind_some, show se_findFewest_l7 nf 0 (rm_i m 51 10 2) = some m9 from p1, Option.bind_some, q1]
    rfl
  · funext i
    rw [q2.1 68 i (by unfold Prun; omega) (by omega) (by omega) (by omega), g1 68 (by omega) (by omega)]
  · rw [q2.1 51 17 (by unfold Prun; omega) (by omega) (by omega) (by omega), g2 17 (by omega)]
  · obtain ⟨a1, a2⟩ := Kz_o q2 (by omega) p hp
    exact ⟨by rw [a1, g1 p (by omega) (by omega)], by rw [a2, p3]; rfl⟩
theorem findRank {S : Nat → Nat} {nf k : Nat} {m : rn_Mem} (wg : WG S) (wt : WT S) (wc : WC S) (hnf : 2000 < nf) (hk : k < 2000) (hH : SH S m) : ∃ m2 v, se_run nf (rm_i (rm_i m 51 10 1) 51 11 (nI k)) = some m2 ∧ InvD m2 v ∧ (∀ y, v ≤ y ↔ k ≤ y ∨ LA S (fac (uc S)) fun X w q => nbQ S X w q (S 2) = 0 ∧ rk (bkQ S X w q (S 2)) ≤ y) ∧ m2.2 51 = m.2 51 ∧ m2.1 51 15 = m.1 51 15 ∧ m2.1 51 16 = m.1 51 16 ∧ m2.1 68 = m.1 68 ∧ m2.1 69 = m.1 69 ∧ m2.1 51 17 = m.1 51 17 ∧ ∀ p, p < 51 ∨ 101 < p → m2.1 p = m.1 p ∧ m2.2 p = m.2 p := by
  generalize hmr : rm_i (rm_i m 51 10 1) 51 11 (nI k) = mr
  have g1 : ∀ p, p ≠ 51 → mr.1 p = m.1 p := fun p h1 => by rw [← hmr]; funext i; rw [mi_get, if_neg (fun t => h1 t.1), mi_get, if_neg (fun t => h1 t.1)]
  have g2 : ∀ i, i ≠ 10 → i ≠ 11 → mr.1 51 i = m.1 51 i := fun i h1 h2 => by rw [← hmr, mi_get, if_neg (fun t => h2 t.2), mi_get, if_neg (fun t => h1 t.2)]
  have g3 : mr.2 = m.2 := by rw [← hmr]; rfl
  obtain ⟨m2, v, q1, q2, q3, q4, q5, q6, q7, q8⟩ := run_D (v0 := k) wg wt wc hnf (SH_k hH fun p h1 h2 => g1 p (by omega)) ⟨by rw [← hmr, mi_get, if_neg (by omega), mi_get, if_pos ⟨rfl, rfl⟩]; rfl, by rw [← hmr, mi_get, if_pos ⟨rfl, rfl⟩], hk⟩
  refine ⟨m2, v, q1, q3, q8, by rw [q5, g3], by rw [q6, g2 15 (by omega) (by omega)], by rw [q7, g2 16 (by omega) (by omega)], ?_, by rw [q4, g1 69 (by omega)], ?_, fun p hp => ?_⟩
  · funext i
    rw [q2.1 68 i (by unfold Prun; omega) (by omega) (by omega) (by omega), g1 68 (by omega)]
  · rw [q2.1 51 17 (by unfold Prun; omega) (by omega) (by omega) (by omega), g2 17 (by omega) (by omega)]
  · obtain ⟨a1, a2⟩ := Kz_o q2 (by omega) p hp
    exact ⟨by rw [a1, g1 p (by omega)], by rw [a2, g3]⟩
theorem findDrops_sp {S : Nat → Nat} {nf : Nat} {m : rn_Mem} (wg : WG S) (wt : WT S) (wc : WC S) (hnf : 2000 < nf) (hH : SH S m) : ∃ m2, se_findDrops nf m = some m2 ∧ CD S m2 ∧ m2.2 51 = m.2 51 ∧ m2.1 51 15 = m.1 51 15 ∧ m2.1 51 16 = m.1 51 16 ∧ m2.1 68 = m.1 68 ∧ m2.1 69 = m.1 69 ∧ ∀ p, p < 51 ∨ 101 < p → m2.1 p = m.1 p ∧ m2.2 p = m.2 p := by
  obtain ⟨m3, v, q1, q2, q3, q4, q5, q6, q7, q8, q9, q10⟩ := findRank (k := 448) wg wt wc hnf (by omega) hH
  have hv : v < 2000 := q2.2.2
  have hx : (if m3.1 51 11 = 448 then some (-4 : Int32) else some (m3.1 51 11 &&& 63)) = some (if v = 448 then (-4) else nI v &&& 63) := by
    rw [q2.2.1]
    by_cases z : v = 448
    · rw [if_pos z, if_pos (by rw [z]; rfl)]
    · rw [if_neg z, if_neg (by rw [show (448 : Int32) = nI 448 from rfl, nI_eq (by omega) (by omega)]; exact z)]
  refine ⟨rm_i m3 51 17 (if v = 448 then (-4) else nI v &&& 63), ?_, ⟨v, hv, by rw [mi_get, if_pos ⟨rfl, rfl⟩], q3⟩, by rw [mi_2]; exact q4, by rw [mi_get, if_neg (by omega)]; exact q5, by rw [mi_get, if_neg (by omega)]; exact q6, ?_, ?_, fun p hp => ⟨?_, ?_⟩⟩
  · unfold se_findDrops
    rw [Option.bind_some, Option.bind_some, show se_run nf (rm_i (rm_i m 51 10 1) 51 11 448) = some m3 from q1, Option.bind_some]
    simp only []
    rw [hx, Option.bind_some, Option.bind_some]
  · rw [← q7]; funext i; rw [mi_get, if_neg (by omega)]
  · rw [← q8]; funext i; rw [mi_get, if_neg (by omega)]
  · rw [← (q10 p hp).1]; funext i; rw [mi_get, if_neg (by omega)]
  · rw [← (q10 p hp).2, mi_2]
theorem findsOne_sp {S : Nat → Nat} {nf : Nat} {m : rn_Mem} (wg : WG S) (wt : WT S) (wc : WC S) (hnf : 2000 < nf) (hH : SH S m) : ∃ (m2 : rn_Mem) (b : Bool), se_findsOne nf m = some (if b = true then 1 else 0, m2) ∧ (b = true ↔ LA S (fac (uc S)) fun X w q => nbQ S X w q (S 2) = 0 ∧ rk (bkQ S X w q (S 2)) ≤ 0) ∧ m2.2 51 = m.2 51 ∧ m2.1 51 15 = m.1 51 15 ∧ m2.1 51 16 = m.1 51 16 ∧ m2.1 68 = m.1 68 ∧ m2.1 69 = m.1 69 ∧ m2.1 51 17 = m.1 51 17 ∧ ∀ p, p < 51 ∨ 101 < p → m2.1 p = m.1 p ∧ m2.2 p = m.2 p := by
  obtain ⟨m3, v, q1, q2, q3, q4, q5, q6, q7, q8, q9, q10⟩ := findRank (k := 1) wg wt wc hnf (by omega) hH
  have hv : v < 2000 := q2.2.2
  refine ⟨m3, decide (v = 0), ?_, ?_, q4, q5, q6, q7, q8, q9, q10⟩
  · unfold se_findsOne
    rw [Option.bind_some, Option.bind_some, show se_run nf (rm_i (rm_i m 51 10 1) 51 11 1) = some m3 from q1, Option.bind_some]
    rw [q2.2.1]
    by_cases z : v = 0
    · rw [if_pos (by rw [z]; rfl), if_pos (decide_eq_true z)]
    · rw [if_neg (nI_ne0 (by omega) (by omega)), if_neg (by rw [decide_eq_true_iff]; exact z)]
  · rw [decide_eq_true_iff]
    have := q3 0
    constructor
    · intro h
      rcases this.mp (by omega) with t | t
      · exact absurd t (by omega)
      · exact t
    · intro h
      have := this.mpr (Or.inr h)
      omega
