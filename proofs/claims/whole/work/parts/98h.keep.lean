/-! SEARCH: what each aim leaves alone -/
theorem AI_Q {V : Type} {S F0 : Nat → Nat} {Y : Nat → Nat → Nat} {Z : Nat → Nat → Nat → Nat} {aim : Nat} {Inv : rn_Mem → V → Prop} {add : V → (Nat → Nat) → (Nat → Nat) → V} (A : AI S F0 Y Z aim Inv add) {Q : rn_Mem → Prop} (hQ1 : ∀ m m' : rn_Mem, Q m → (∀ i, i ≠ 9 → m'.1 51 i = m.1 51 i) → m'.1 69 = m.1 69 → m'.2 51 = m.2 51 → Q m') (hQ2 : ∀ (nf : Nat) (w av : Nat → Nat) (v : V) (m m2 : rn_Mem), 50 < nf → Inv m v → WMs S F0 Y Z m → VL S F0 Y w av 0 → (∀ j, j < S 2 → m.1 67 j = nI (24 * nnk S F0 w j + av j)) → Q m → (if aim = 0 then se_notePlay nf (nI (kz S F0 Z 1 w av 0)) m else se_noteLess nf (nI (prG S F0 Y Z aim w av (S 2))) (nI (byG S F0 Z w av (S 2))) m) = some m2 → Q m2) : AI S F0 Y Z aim (fun m v => Inv m v ∧ Q m) add := by
  obtain ⟨a1, a2, a3, a4, a5, a6⟩ := A
  refine ⟨a1, fun m m' v h e1 e2 e3 => ⟨a2 m m' v h.1 e1 e2 e3, hQ1 m m' h.2 e1 e2 e3⟩, fun m v h => a3 m v h.1, fun nf r w av v m h1 h2 h3 hI hW hV => a4 nf r w av v m h1 h2 h3 hI.1 hW hV, fun h r w av v m h1 hI h2 => a5 h r w av v m h1 hI.1 h2, fun nf w av v m h1 hI hW hV hp hw hpr => ?_⟩
  obtain ⟨m', b1, b2, b3⟩ := hpr
  obtain ⟨m2, c1, c2, c3⟩ := a6 nf w av v m h1 hI.1 hW hV hp hw ⟨m', b1.1, b2, b3⟩
  exact ⟨m2, c1, ⟨c2, hQ2 nf w av v m m2 h1 hI.1 hW hV hp hI.2 c1⟩, c3⟩
theorem noteLess_D {nf : Nat} {a b : Int32} {m m2 : rn_Mem} (h10 : m.1 51 10 = nI 1) (h : se_noteLess nf a b m = some m2) : m2.2 = m.2 ∧ ∀ p i, ¬ (p = 51 ∧ i = 11) → m2.1 p i = m.1 p i := by
  unfold se_noteLess at h
  rw [if_pos (show m.1 51 10 = 1 by rw [h10]; rfl)] at h
  simp only [Option.bind_some] at h
  injection h with h
  rw [← h]
  exact ⟨rfl, fun p i hp => by rw [mi_get, if_neg hp]⟩
theorem noteLess_l32_f {a b : Int32} : ∀ {nf : Nat} {c : Int32} {m m2 : rn_Mem}, se_noteLess_l32 a b nf c m = some m2 → m2.2 = m.2 ∧ ∀ p, p ≠ 69 → m2.1 p = m.1 p
  | 0, c, m, m2, h => by rw [se_noteLess_l32] at h; exact absurd h (by simp)
  | nf + 1, c, m, m2, h => by
    rw [se_noteLess_l32] at h
    by_cases z1 : c < m.1 52 1
    · rw [if_pos z1] at h
      by_cases z2 : ((b >>> (((4 : Int32) * c) &&& 31)) &&& 1) = 0
      · rw [if_pos z2] at h
        by_cases z3 : rn_in (c + 1) 5 = true
        · rw [if_pos z3] at h
          have e : ∃ r, ja_min nf (m.1 69 (c + 1).toNatClampNeg) a m = some (r, m) := by
            unfold ja_min
            split
            · exact ⟨_, rfl⟩
            · exact ⟨_, rfl⟩
          obtain ⟨r, e⟩ := e
          rw [e] at h
          simp only [Option.bind_some, if_pos z3] at h
          obtain ⟨h1, h2⟩ := noteLess_l32_f h
          exact ⟨h1, fun p hp => by rw [h2 p hp]; funext i; rw [mi_get, if_neg (fun y => hp y.1)]⟩
        · rw [if_neg z3] at h
          simp only [Option.bind_none] at h
          exact absurd h (by simp)
      · rw [if_neg z2] at h
        simp only [Option.bind_some] at h
        exact noteLess_l32_f h
    · rw [if_neg z1] at h
      injection h with h
      rw [h]
      exact ⟨rfl, fun _ _ => rfl⟩
theorem noteLess_B {nf : Nat} {a b : Int32} {m m2 : rn_Mem} (h10 : m.1 51 10 = nI 2) (h : se_noteLess nf a b m = some m2) : m2.2 = m.2 ∧ ∀ p, p ≠ 69 → m2.1 p = m.1 p := by
  unfold se_noteLess at h
  rw [if_neg (show ¬ m.1 51 10 = 1 by rw [h10]; decide)] at h
  have e : ∃ r, ja_min nf (m.1 69 0) a m = some (r, m) := by
    unfold ja_min
    split
    · exact ⟨_, rfl⟩
    · exact ⟨_, rfl⟩
  obtain ⟨r, e⟩ := e
  rw [e] at h
  simp only [Option.bind_some] at h
  cases hl : se_noteLess_l32 a b nf 0 (rm_i m 69 0 r) with
  | none => rw [hl] at h; exact absurd h (by simp)
  | some m3 =>
    rw [hl] at h
    simp only [Option.bind_some] at h
    injection h with h
    obtain ⟨h1, h2⟩ := noteLess_l32_f hl
    rw [← h]
    exact ⟨h1, fun p hp => by rw [h2 p hp]; funext i; rw [mi_get, if_neg (fun y => hp y.1)]⟩
theorem notePlay_f {S F0 : Nat → Nat} {Y : Nat → Nat → Nat} {Z : Nat → Nat → Nat → Nat} {w av : Nat → Nat} {nf : Nat} {m m2 : rn_Mem} {a : Nat} (ha : a < 2 ^ 31) (wg : WG S) (hY : YZ S F0 Y Z) (hV : VL S F0 Y w av 0) (hnf : 50 < nf) (hW : WMs S F0 Y Z m) (hp : ∀ j, j < S 2 → m.1 67 j = nI (24 * nnk S F0 w j + av j)) {hd le wi : Nat} (h1 : m.2 51 14 = lN hd) (h2 : m.1 51 15 = nI le) (h3 : m.1 51 16 = nI wi) (e1 : a = kz S F0 Z 1 w av 0) (h : se_notePlay nf (nI a) m = some m2) : ∀ p, p ≠ 51 → m2.1 p = m.1 p := by
  have w4 : S 2 ≤ 4 := wg.2.2.2.1
  obtain ⟨mq, p1, p2, p3, p4, p5, p6⟩ := notePlay_l9_sp (hd := hd) (le := le) (wi := wi) wg hY hV (S 2) 0 nf m (by omega) (by omega) hW hp (by rw [hoA, Nat.or_zero]; exact h1) (by rw [leA, Nat.or_zero]; exact h2) (by rw [wiA, Nat.or_zero]; exact h3)
  unfold se_notePlay at h
  simp only [Option.bind_some] at h
  rw [nI_l ha, e1, show se_notePlay_l9 nf 1 (lN (kz S F0 Z 1 w av 0)) 0 m = some (lN (pmA S F0 Z w av (S 2)), lN (rwA S F0 Z w av (S 2)), mq) from p1] at h
  simp only [Option.bind_some] at h
  have fin : m2.1 = mq.1 := by
    by_cases z : lg_cmp (mq.2 51 12) 0 = 0
    · rw [if_pos z] at h
      simp only [Option.bind_some] at h
      injection h with h
      rw [← h, mj_1, mj_1]
    · rw [if_neg z] at h
      unfold ja_minL at h
      by_cases y : 0 < lg_cmp (mq.2 51 13) (lN (rwA S F0 Z w av (S 2)))
      · rw [if_pos y] at h
        simp only [Option.bind_some] at h
        injection h with h
        rw [← h, mj_1, mj_1]
      · rw [if_neg y] at h
        simp only [Option.bind_some] at h
        injection h with h
        rw [← h, mj_1, mj_1]
  intro p hp'
  rw [fin]
  funext i
  exact p5 p i (fun y => hp' y.1)
/-- what is kept by the aim: of all plays, the numbers of breaches; of dropped clues, and of breaches, the rest -/
def QA (c : Nat → Int32) (m : rn_Mem) : Prop := m.1 69 = c
def QD (c : Nat → Int32) (d : Nat → Int64) (e f : Int32) (m : rn_Mem) : Prop := m.1 69 = c ∧ m.2 51 = d ∧ m.1 51 15 = e ∧ m.1 51 16 = f
def QB (d : Nat → Int64) (e f : Int32) (m : rn_Mem) : Prop := m.2 51 = d ∧ m.1 51 15 = e ∧ m.1 51 16 = f
theorem AI_DQ {S F0 : Nat → Nat} {Y : Nat → Nat → Nat} {Z : Nat → Nat → Nat → Nat} (wc : WC S) (hY : YZ S F0 Y Z) (c : Nat → Int32) (d : Nat → Int64) (e f : Int32) : AI S F0 Y Z 1 (fun m v => InvD m v ∧ QD c d e f m) (addD S F0 Y Z) := by
  refine AI_Q (AI_D wc hY) (fun m m' h e1 e2 e3 => ?_) (fun nf w av v m m2 hnf hI hW hV hp hQ hn => ?_)
  · obtain ⟨q1, q2, q3, q4⟩ := h
    exact ⟨by rw [e2]; exact q1, by rw [e3]; exact q2, by rw [e1 15 (by omega)]; exact q3, by rw [e1 16 (by omega)]; exact q4⟩
  · rw [if_neg (by omega)] at hn
    obtain ⟨h1, h2⟩ := noteLess_D hI.1 hn
    obtain ⟨q1, q2, q3, q4⟩ := hQ
    exact ⟨by rw [← q1]; funext i; exact h2 69 i (by omega), by rw [h1]; exact q2, by rw [h2 51 15 (by omega)]; exact q3, by rw [h2 51 16 (by omega)]; exact q4⟩
theorem AI_BQ {S F0 : Nat → Nat} {Y : Nat → Nat → Nat} {Z : Nat → Nat → Nat → Nat} (A : AI S F0 Y Z 2 (InvB S) (addB S F0 Y Z)) (d : Nat → Int64) (e f : Int32) : AI S F0 Y Z 2 (fun m v => InvB S m v ∧ QB d e f m) (addB S F0 Y Z) := by
  refine AI_Q A (fun m m' h e1 e2 e3 => ?_) (fun nf w av v m m2 hnf hI hW hV hp hQ hn => ?_)
  · obtain ⟨q2, q3, q4⟩ := h
    exact ⟨by rw [e3]; exact q2, by rw [e1 15 (by omega)]; exact q3, by rw [e1 16 (by omega)]; exact q4⟩
  · rw [if_neg (by omega)] at hn
    obtain ⟨h1, h2⟩ := noteLess_B hI.1 hn
    obtain ⟨q2, q3, q4⟩ := hQ
    exact ⟨by rw [h1]; exact q2, by rw [h2 51 (by omega)]; exact q3, by rw [h2 51 (by omega)]; exact q4⟩
theorem AI_AQ {S F0 : Nat → Nat} {Y : Nat → Nat → Nat} {Z : Nat → Nat → Nat → Nat} (wg : WG S) (wc : WC S) (hY : YZ S F0 Y Z) (c : Nat → Int32) : AI S F0 Y Z 0 (fun m v => InvA m v ∧ QA c m) (addA S F0 Y Z) := by
  refine AI_Q (AI_A wg wc hY) (fun m m' h e1 e2 e3 => ?_) (fun nf w av v m m2 hnf hI hW hV hp hQ hn => ?_)
  · unfold QA; rw [e2]; exact h
  · rw [if_pos rfl] at hn
    obtain ⟨a1, a2, a3, a4, a5, a6⟩ := hI
    have w3 : 1 ≤ S 2 := wg.2.2.1
    have hk1 : kz S F0 Z 1 w av 0 < 2 ^ 31 := by
      have hnn := VL_nn hY hV (Nat.le_refl 0) (show 0 < S 2 by omega)
      have := ((hY.2.2.1 _ hnn).2.2.2 _ (hV 0 (Nat.le_refl 0) (by omega)).2.2).1
      have := wg.2.1
      unfold kz
      omega
    have := notePlay_f hk1 wg hY hV hnf hW hp a4 a5 a6 rfl hn 69 (by omega)
    unfold QA
    rw [this]
    exact hQ
