/-! SEARCH: what it takes, and the survey -/
theorem take_sp {S V : Nat → Nat} {nf : Nat} {m : rn_Mem} (wg : WG S) (wt : WT S) (wc : WC S) (h0 : S 0 = 1) (h9 : S 9 = 1) (hc : cS3 S V 3 m) : ∃ m2, se_take nf 3 m = some m2 ∧ SH S m2 ∧ m2.2 = m.2 ∧ ∀ p, p < 52 ∨ 61 < p → m2.1 p = m.1 p := by
  obtain ⟨c1, c2, c3, _⟩ := hc
  have w2 : S 1 ≤ 4 := wg.2.1
  have b1 : m.1 4 0 = 0 ∨ m.1 4 0 = 1 := Or.inr (by rw [show m.1 4 0 = nI (S 0) from c1.1, h0]; rfl)
  obtain ⟨m1, e1, f1, g1, k1⟩ := ga_copy_sp (n := nf) (q := 52) (p := 4) (m := m) (by omega) b1
  have b2 : m1.1 5 0 = 0 ∨ m1.1 5 0 = 1 := Or.inr (by rw [k1 5 (by omega), show m.1 5 0 = nI (S 9) from c2.1, h9]; rfl)
  obtain ⟨m2, e2, f2, g2, g2a, g2b, g2c, k2⟩ := ta_copy_sp (n := nf) (q := 53) (p := 5) (m := m1) (by omega) b2
  obtain ⟨m3, e3, f3, g3, g3a, k3⟩ := cl_copy_sp (n := nf) (q := 57) (p := 9) (m := m2) (by omega)
  have h52 : ∀ i, i < 9 → m3.1 52 i = m.1 4 i := fun i hi => by rw [k3 52 (by omega), k2 52 (by omega)]; exact g1 i hi
  have hj : ∀ p, 5 ≤ p → p ≤ 13 → m1.1 p = m.1 p := fun p _ _ => k1 p (by omega)
  refine ⟨m3, ?_, ⟨⟨?_, fun _ => ?_⟩, h0, h9, ⟨?_, fun k hk => ?_⟩, ⟨?_, fun _ => ⟨fun c hc => ?_, fun c i hc hi => ?_, ?_, ?_⟩⟩⟩, by rw [f3, f2, f1], fun p hp => by rw [k3 p (by omega), k2 p (by omega), k1 p (by omega)]⟩
  · unfold se_take
    rw [e1, Option.bind_some, e2, Option.bind_some, e3]
    rfl
  · rw [h52 0 (by omega)]; exact c1.1
  · rw [h52 1 (by omega), h52 2 (by omega), h52 3 (by omega), h52 4 (by omega), h52 5 (by omega), h52 6 (by omega), h52 7 (by omega), h52 8 (by omega)]
    exact c1.2 h0
  · rw [g3, k2 9 (by omega), hj 9 (by omega) (by omega)]; exact c3.1
  · have hk6 : k < 6 := Nat.lt_of_lt_of_le hk wc.1
    have a := g3a 1 k (by omega) (by omega) hk6
    have b := g3a 2 k (by omega) (by omega) hk6
    have c := g3a 3 k (by omega) (by omega) hk6
    have d := g3a 4 k (by omega) (by omega) hk6
    rw [k2 _ (by omega), hj _ (by omega) (by omega)] at a b c d
    rw [a, b, c, d]
    exact c3.2 k hk
  · rw [k3 53 (by omega), g2.1, hj 5 (by omega) (by omega)]; exact c2.1
  · have t1 := (c2.2 h9).1 c hc
    have a := g2a c (by omega)
    have b := g2b c (by omega)
    rw [hj _ (by omega) (by omega)] at a b
    rw [k3 54 (by omega), k3 55 (by omega), a, b]
    exact t1
  · have t2 := (c2.2 h9).2.1 c i hc hi
    have hs := sz_12 wg wt h9 hc
    have a := g2c (12 * c + i) (by omega)
    rw [hj _ (by omega) (by omega)] at a
    rw [k3 56 (by omega), a]
    exact t2
  · rw [k3 53 (by omega), g2.2.2.2, hj 5 (by omega) (by omega)]; exact (c2.2 h9).2.2.1
  · rw [k3 53 (by omega), g2.2.2.1, hj 5 (by omega) (by omega)]; exact (c2.2 h9).2.2.2
/-- the findings that field 8 says are fresh are so -/
def CH (S : Nat → Nat) (m : rn_Mem) : Prop := ∃ fr, m.1 0 8 = nI fr ∧ fr < 32 ∧ (fr.testBit 0 = true → S 9 = 1 ∧ CA S m) ∧ (fr.testBit 1 = true → S 9 = 1 ∧ CB S m) ∧ (fr.testBit 2 = true → S 9 = 1 ∧ CD S m) ∧ (fr.testBit 3 = true → S 9 = 1 ∧ m.1 0 9 = nI (tuN S)) ∧ (fr.testBit 4 = true → S 9 = 1 ∧ m.1 0 10 = nI (otN S))
/-- places outside of the search that stay, field 8 aside -/
def Kcs (m m2 : rn_Mem) : Prop := (∀ p i, (p < 51 ∨ 101 < p) → ¬ (p = 0 ∧ i = 8) → m2.1 p i = m.1 p i) ∧ ∀ p, (p < 51 ∨ 101 < p) → m2.2 p = m.2 p
theorem Kcs.rf {m : rn_Mem} : Kcs m m := ⟨fun _ _ _ _ => rfl, fun _ _ => rfl⟩
theorem CB_k {S : Nat → Nat} {m m2 : rn_Mem} (h : CB S m) (h1 : m2.1 69 = m.1 69) : CB S m2 := by
  unfold CB at *
  rw [h1]
  exact h
theorem CD_k {S : Nat → Nat} {m m2 : rn_Mem} (h : CD S m) (h1 : m2.1 51 17 = m.1 51 17) : CD S m2 := by
  unfold CD at *
  rw [h1]
  exact h
theorem fr_and : ∀ fr, fr < 32 → ∀ k, k < 5 → (nI fr &&& nI (2 ^ k) = 0 ↔ fr.testBit k = false) := by decide +kernel
theorem fr_or : ∀ fr, fr < 32 → ∀ k, k < 5 → (nI fr ||| nI (2 ^ k) = nI (fr ||| 2 ^ k) ∧ fr ||| 2 ^ k < 32) := by decide +kernel
theorem fr_bit {fr k j : Nat} (h : (fr ||| 2 ^ k).testBit j = true) (hj : j ≠ k) : fr.testBit j = true := by
  rw [Nat.testBit_or, Bool.or_eq_true, Nat.testBit_two_pow, decide_eq_true_iff] at h
  exact h.elim id fun y => absurd y.symm hj
theorem survey_sp {S V : Nat → Nat} {nf : Nat} {m : rn_Mem} (wg : WG S) (wt : WT S) (wc : WC S) (h0 : S 0 = 1) (h9 : S 9 = 1) (hnf : 2000 < nf) (hc : cS3 S V 3 m) (hC : CH S m) : ∃ m2, lt_survey nf m = some m2 ∧ CA S m2 ∧ CH S m2 ∧ Kcs m m2 := by
  obtain ⟨fr, a1, a2, a3, a4, a5, a6, a7⟩ := hC
  unfold lt_survey
  rw [a1]
  by_cases z : fr.testBit 0 = false
  · obtain ⟨mt, t1, t2, t3, t4⟩ := take_sp (nf := nf) wg wt wc h0 h9 hc
    obtain ⟨mf, q1, q2, q3, q4, q5⟩ := findAll_sp wg wt wc hnf t2
    have e8 : mf.1 0 8 = nI fr := by rw [(q5 0 (by omega)).1, t4 0 (by omega)]; exact a1
    obtain ⟨o1, o2⟩ := fr_or fr a2 0 (by omega)
    generalize hmr : rm_i mf 0 8 (nI (fr ||| 2 ^ 0)) = mr
    have g1 : ∀ p, p ≠ 0 → mr.1 p = mf.1 p := fun p hp => by rw [← hmr]; funext i; rw [mi_get, if_neg (fun t => hp t.1)]
    have g2 : mr.2 = mf.2 := by rw [← hmr]; rfl
    have hCA : CA S mr := CA_k q2 (by rw [g2]) (by rw [g1 51 (by omega)]) (by rw [g1 51 (by omega)]) (by rw [g1 68 (by omega)])
    refine ⟨mr, ?_, hCA, ⟨fr ||| 2 ^ 0, by rw [← hmr, mi_get, if_pos ⟨rfl, rfl⟩], o2, fun _ => ⟨h9, hCA⟩, fun h => ⟨h9, CB_k (a4 (fr_bit h (by omega))).2 (by rw [g1 69 (by omega), q3, t4 69 (by omega)])⟩, fun h => ⟨h9, CD_k (a5 (fr_bit h (by omega))).2 (by rw [g1 51 (by omega), q4, t4 51 (by omega)])⟩, fun h => ⟨h9, by rw [← hmr, mi_get, if_neg (by omega), (q5 0 (by omega)).1, t4 0 (by omega)]; exact (a6 (fr_bit h (by omega))).2⟩, fun h => ⟨h9, by rw [← hmr, mi_get, if_neg (by omega), (q5 0 (by omega)).1, t4 0 (by omega)]; exact (a7 (fr_bit h (by omega))).2⟩⟩, ⟨fun p i hp hn => ?_, fun p hp => ?_⟩⟩
    · rw [if_pos (show nI fr &&& 1 = 0 from (fr_and fr a2 0 (by omega)).mpr z), t1, Option.bind_some, q1, Option.bind_some]
      simp only [Option.bind_some]
      rw [e8, show (1 : Int32) = nI (2 ^ 0) from rfl, o1, hmr]
    · rw [← hmr, mi_get, if_neg hn, (q5 p hp).1, t4 p (by omega)]
    · rw [g2, (q5 p hp).2, t3]
  · have z' : fr.testBit 0 = true := by cases h : fr.testBit 0 with | true => rfl | false => exact absurd h z
    refine ⟨m, ?_, (a3 z').2, ⟨fr, a1, a2, a3, a4, a5, a6, a7⟩, Kcs.rf⟩
    rw [if_neg (show ¬ nI fr &&& 1 = 0 from fun y => z ((fr_and fr a2 0 (by omega)).mp y))]
theorem fewest_sp {S V : Nat → Nat} {nf : Nat} {m : rn_Mem} (wg : WG S) (wt : WT S) (wc : WC S) (h0 : S 0 = 1) (h9 : S 9 = 1) (hnf : 2000 < nf) (hc : cS3 S V 3 m) (hC : CH S m) : ∃ m2, (if ((m.1 0 8) &&& 2) = 0 then (se_take nf 3 m).bind fun m6 => (se_findFewest nf m6).bind fun m8 => (some (rm_i m8 0 8 ((m8.1 0 8) ||| 2))).bind fun (m10 : rn_Mem) => some m10 else some m) = some m2 ∧ CB S m2 ∧ CH S m2 ∧ Kcs m m2 := by
  obtain ⟨fr, a1, a2, a3, a4, a5, a6, a7⟩ := hC
  rw [a1]
  by_cases z : fr.testBit 1 = false
  · obtain ⟨mt, t1, t2, t3, t4⟩ := take_sp (nf := nf) wg wt wc h0 h9 hc
    obtain ⟨mf, q1, q2, q3, q4, q4b, q4c, q4d, q5⟩ := findFewest_sp wg wt wc hnf t2
    have e8 : mf.1 0 8 = nI fr := by rw [(q5 0 (by omega)).1, t4 0 (by omega)]; exact a1
    obtain ⟨o1, o2⟩ := fr_or fr a2 1 (by omega)
    generalize hmr : rm_i mf 0 8 (nI (fr ||| 2 ^ 1)) = mr
    have g1 : ∀ p, p ≠ 0 → mr.1 p = mf.1 p := fun p hp => by rw [← hmr]; funext i; rw [mi_get, if_neg (fun t => hp t.1)]
    have g2 : mr.2 = mf.2 := by rw [← hmr]; rfl
    have hCB : CB S mr := CB_k q2 (by rw [g1 69 (by omega)])
    refine ⟨mr, ?_, hCB, ⟨fr ||| 2 ^ 1, by rw [← hmr, mi_get, if_pos ⟨rfl, rfl⟩], o2, fun h => ⟨h9, CA_k (a3 (fr_bit h (by omega))).2 (by rw [g2, q3, t3]) (by rw [g1 51 (by omega), q4, t4 51 (by omega)]) (by rw [g1 51 (by omega), q4b, t4 51 (by omega)]) (by rw [g1 68 (by omega), q4c, t4 68 (by omega)])⟩, fun _ => ⟨h9, hCB⟩, fun h => ⟨h9, CD_k (a5 (fr_bit h (by omega))).2 (by rw [g1 51 (by omega), q4d, t4 51 (by omega)])⟩, fun h => ⟨h9, by rw [← hmr, mi_get, if_neg (by omega), (q5 0 (by omega)).1, t4 0 (by omega)]; exact (a6 (fr_bit h (by omega))).2⟩, fun h => ⟨h9, by rw [← hmr, mi_get, if_neg (by omega), (q5 0 (by omega)).1, t4 0 (by omega)]; exact (a7 (fr_bit h (by omega))).2⟩⟩, ⟨fun p i hp hn => ?_, fun p hp => ?_⟩⟩
    · rw [if_pos (show nI fr &&& 2 = 0 from (fr_and fr a2 1 (by omega)).mpr z), t1, Option.bind_some, q1, Option.bind_some]
      simp only [Option.bind_some]
      rw [e8, show (2 : Int32) = nI (2 ^ 1) from rfl, o1, hmr]
    · rw [← hmr, mi_get, if_neg hn, (q5 p hp).1, t4 p (by omega)]
    · rw [g2, (q5 p hp).2, t3]
  · have z' : fr.testBit 1 = true := by cases h : fr.testBit 1 with | true => rfl | false => exact absurd h z
    refine ⟨m, ?_, (a4 z').2, ⟨fr, a1, a2, a3, a4, a5, a6, a7⟩, Kcs.rf⟩
    rw [if_neg (show ¬ nI fr &&& 2 = 0 from fun y => z ((fr_and fr a2 1 (by omega)).mp y))]
theorem drops_sp {S V : Nat → Nat} {nf : Nat} {m : rn_Mem} (wg : WG S) (wt : WT S) (wc : WC S) (h0 : S 0 = 1) (h9 : S 9 = 1) (hnf : 2000 < nf) (hc : cS3 S V 3 m) (hC : CH S m) : ∃ m2 v, lt_drops nf m = some ((if v = 448 then (-4) else nI v &&& 63), m2) ∧ v < 2000 ∧ (∀ y, v ≤ y ↔ 448 ≤ y ∨ LA S (fac (uc S)) fun X w q => nbQ S X w q (S 2) = 0 ∧ rk (bkQ S X w q (S 2)) ≤ y) ∧ CH S m2 ∧ Kcs m m2 := by
  obtain ⟨fr, a1, a2, a3, a4, a5, a6, a7⟩ := hC
  unfold lt_drops
  have e9 : m.1 5 0 = nI (S 9) := hc.2.1.1
  rw [e9, if_neg (by rw [h9]; decide), a1]
  by_cases z : fr.testBit 2 = false
  · obtain ⟨mt, t1, t2, t3, t4⟩ := take_sp (nf := nf) wg wt wc h0 h9 hc
    obtain ⟨mf, q1, q2, q3, q4, q4b, q4c, q4d, q5⟩ := findDrops_sp wg wt wc hnf t2
    have e8 : mf.1 0 8 = nI fr := by rw [(q5 0 (by omega)).1, t4 0 (by omega)]; exact a1
    obtain ⟨o1, o2⟩ := fr_or fr a2 2 (by omega)
    generalize hmr : rm_i mf 0 8 (nI (fr ||| 2 ^ 2)) = mr
    have g1 : ∀ p, p ≠ 0 → mr.1 p = mf.1 p := fun p hp => by rw [← hmr]; funext i; rw [mi_get, if_neg (fun t => hp t.1)]
    have g2 : mr.2 = mf.2 := by rw [← hmr]; rfl
    have hCD : CD S mr := CD_k q2 (by rw [g1 51 (by omega)])
    obtain ⟨v, v1, v2, v3⟩ := hCD
    refine ⟨mr, v, ?_, v1, v3, ⟨fr ||| 2 ^ 2, by rw [← hmr, mi_get, if_pos ⟨rfl, rfl⟩], o2, fun h => ⟨h9, CA_k (a3 (fr_bit h (by omega))).2 (by rw [g2, q3, t3]) (by rw [g1 51 (by omega), q4, t4 51 (by omega)]) (by rw [g1 51 (by omega), q4b, t4 51 (by omega)]) (by rw [g1 68 (by omega), q4c, t4 68 (by omega)])⟩, fun h => ⟨h9, CB_k (a4 (fr_bit h (by omega))).2 (by rw [g1 69 (by omega), q4d, t4 69 (by omega)])⟩, fun _ => ⟨h9, v, v1, v2, v3⟩, fun h => ⟨h9, by rw [← hmr, mi_get, if_neg (by omega), (q5 0 (by omega)).1, t4 0 (by omega)]; exact (a6 (fr_bit h (by omega))).2⟩, fun h => ⟨h9, by rw [← hmr, mi_get, if_neg (by omega), (q5 0 (by omega)).1, t4 0 (by omega)]; exact (a7 (fr_bit h (by omega))).2⟩⟩, ⟨fun p i hp hn => ?_, fun p hp => ?_⟩⟩
    · rw [if_pos (show nI fr &&& 4 = 0 from (fr_and fr a2 2 (by omega)).mpr z), t1, Option.bind_some, q1, Option.bind_some]
      simp only [Option.bind_some]
      rw [e8, show nI fr ||| 4 = nI (fr ||| 2 ^ 2) from o1, hmr, v2]
    · rw [← hmr, mi_get, if_neg hn, (q5 p hp).1, t4 p (by omega)]
    · rw [g2, (q5 p hp).2, t3]
  · have z' : fr.testBit 2 = true := by cases h : fr.testBit 2 with | true => rfl | false => exact absurd h z
    obtain ⟨v, v1, v2, v3⟩ := (a5 z').2
    refine ⟨m, v, ?_, v1, v3, ⟨fr, a1, a2, a3, a4, a5, a6, a7⟩, Kcs.rf⟩
    rw [if_neg (show ¬ nI fr &&& 4 = 0 from fun y => z ((fr_and fr a2 2 (by omega)).mp y)), v2]
