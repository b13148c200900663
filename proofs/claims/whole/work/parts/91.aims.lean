/-! SEARCH: the aims: clues dropped; breaches -/
theorem or_le {a b : Nat} (h : ∀ x, a.testBit x = true → b.testBit x = true) : a ≤ b := by
  have e : a ||| bd b a = b := by
    apply Nat.eq_of_testBit_eq
    intro x
    rw [Nat.testBit_or, bd_bit]
    have := h x
    revert this
    cases a.testBit x <;> cases b.testBit x <;> simp
  rw [← e]
  exact Nat.left_le_or
theorem bkG_m {S F0 : Nat → Nat} {Y : Nat → Nat → Nat} {Z : Nat → Nat → Nat → Nat} {w av : Nat → Nat} {x : Nat} : ∀ {d r : Nat}, (bkG S F0 Y Z w av r).testBit x = true → (bkG S F0 Y Z w av (r + d)).testBit x = true
  | 0, r, h => h
  | d + 1, r, h => by
    rw [← Nat.add_assoc, bkG, Nat.testBit_or, Nat.testBit_or, bkG_m h]
    rfl
theorem byG_m {S F0 : Nat → Nat} {Z : Nat → Nat → Nat → Nat} {w av : Nat → Nat} {x : Nat} : ∀ {d r : Nat}, (byG S F0 Z w av r).testBit x = true → (byG S F0 Z w av (r + d)).testBit x = true
  | 0, r, h => h
  | d + 1, r, h => by
    rw [← Nat.add_assoc, byG, Nat.testBit_or, byG_m h]
    rfl
theorem nbG_m {S F0 : Nat → Nat} {Z : Nat → Nat → Nat → Nat} {w av : Nat → Nat} : ∀ {d r : Nat}, nbG S F0 Z w av r ≤ nbG S F0 Z w av (r + d)
  | 0, r => Nat.le_refl _
  | d + 1, r => by
    rw [← Nat.add_assoc, nbG]
    have := nbG_m (S := S) (F0 := F0) (Z := Z) (w := w) (av := av) (d := d) (r := r)
    omega
theorem cin_pos {x : Nat} (h : cin x ≠ 0) : 0 < cnt (cin x) := by
  rcases Nat.eq_zero_or_pos (cnt (cin x)) with z | z
  · exact absurd (cnt_zero (cin_lt x) z) h
  · exact z
theorem nbG_wr {S F0 : Nat → Nat} {Z : Nat → Nat → Nat → Nat} {w av : Nat → Nat} {r : Nat} (hr : r < S 2) (h : wrG S F0 Z w av r ≠ 0) : nbG S F0 Z w av (S 2) ≠ 0 := by
  have h1 : 0 < cnt (wrG S F0 Z w av r) := cin_pos h
  have h2 := nbG_m (S := S) (F0 := F0) (Z := Z) (w := w) (av := av) (d := S 2 - (r + 1)) (r := r + 1)
  rw [show r + 1 + (S 2 - (r + 1)) = S 2 by omega, nbG] at h2
  omega
theorem nbG_0 {S F0 : Nat → Nat} {Z : Nat → Nat → Nat → Nat} {w av : Nat → Nat} : ∀ {r : Nat}, (∀ i, i < r → wrG S F0 Z w av i = 0) → nbG S F0 Z w av r = 0
  | 0, _ => rfl
  | r + 1, h => by
    rw [nbG, nbG_0 fun i hi => h i (by omega), h r (by omega)]
    decide
theorem rk_m {a b : Nat} (h : ∀ x, a.testBit x = true → b.testBit x = true) : rk a ≤ rk b := by
  have h1 := cnt_le (A := a) (B := b) fun x _ => h x
  have h2 := or_le h
  unfold rk
  omega
theorem rk_lt {b : Nat} (h : b < 64) : rk b < 2000 := by
  have := fb_ct_le (fun x => b.testBit x) 16
  have : cnt b ≤ 16 := this
  unfold rk
  omega
def InvD (m : rn_Mem) (v : Nat) : Prop := m.1 51 10 = nI 1 ∧ m.1 51 11 = nI v ∧ v < 2000
def addD (S F0 : Nat → Nat) (Y : Nat → Nat → Nat) (Z : Nat → Nat → Nat → Nat) (v : Nat) (w av : Nat → Nat) : Nat := if nbG S F0 Z w av (S 2) = 0 ∧ rk (bkG S F0 Y Z w av (S 2)) < v then rk (bkG S F0 Y Z w av (S 2)) else v
theorem AI_D {S F0 : Nat → Nat} {Y : Nat → Nat → Nat} {Z : Nat → Nat → Nat → Nat} (wc : WC S) (hY : YZ S F0 Y Z) : AI S F0 Y Z 1 InvD (addD S F0 Y Z) := by
  have prom : ∀ (nf r : Nat) (w av : Nat → Nat) (v : Nat) (m : rn_Mem) (a2 : Int32), bkG S F0 Y Z w av r < 64 → InvD m v → se_promises nf (nI (prG S F0 Y Z 1 w av r)) a2 (nI (bkG S F0 Y Z w av r)) m = some (if rk (bkG S F0 Y Z w av r) < v then 1 else 0, m) := by
    intro nf r w av v m a2 hb hI
    have := rk_lt hb
    have hv := hI.2.2
    unfold se_promises
    rw [hI.1, if_pos (show nI 1 = 1 from rfl), hI.2.1, prG_1]
    by_cases z : rk (bkG S F0 Y Z w av r) < v
    · rw [if_pos (by rw [nI_ltI (by omega) (by omega)]; exact z), if_pos z]
    · rw [if_neg (by rw [nI_ltI (by omega) (by omega)]; exact z), if_neg z]
  refine ⟨by omega, fun m m' v h e1 e2 e3 => ?_, fun m v h => h.1, fun nf r w av v m hnf h1 h2 hI hW hV => ?_, fun _ r w av v m hr hI hwr => ?_, fun nf w av v m hnf hI hW hV hp hw hpr => ?_⟩
  · exact ⟨by rw [e1 10 (by omega)]; exact h.1, by rw [e1 11 (by omega)]; exact h.2.1, h.2.2⟩
  · have hb := (VL_b hY h2 hV).2.2.2.2 wc.1
    refine ⟨decide (rk (bkG S F0 Y Z w av r) < v), ?_, fun hf w' av' y1 y2 => ?_⟩
    · rw [prom nf r w av v m _ hb hI]
      by_cases z : rk (bkG S F0 Y Z w av r) < v
      · rw [if_pos z, decide_eq_true z]; rfl
      · rw [if_neg z, decide_eq_false z]; rfl
    · have hf := of_decide_eq_false hf
      unfold addD
      rw [if_neg]
      rintro ⟨_, q⟩
      have e : bkG S F0 Y Z w' av' r = bkG S F0 Y Z w av r := bkG_c h2 y1 y2
      have := rk_m (a := bkG S F0 Y Z w' av' r) (b := bkG S F0 Y Z w' av' (S 2)) fun x hx => by
        have := bkG_m (d := S 2 - r) hx
        rw [show r + (S 2 - r) = S 2 by omega] at this
        exact this
      rw [e] at this
      omega
  · unfold addD
    rw [if_neg (fun z => nbG_wr hr hwr z.1)]
  · obtain ⟨m', hI', hW', hpm⟩ := hpr
    have hb := (VL_b hY (r := S 2) (Nat.le_refl _) (by rw [Nat.sub_self]; exact hV)).2.2.2.2 wc.1
    rw [prom nf (S 2) w av v m' _ hb hI'] at hpm
    have hlt : rk (bkG S F0 Y Z w av (S 2)) < v := by
      by_cases z : rk (bkG S F0 Y Z w av (S 2)) < v
      · exact z
      · rw [if_neg z] at hpm
        injection hpm with hpm
        injection hpm with hpm
        exact absurd hpm (by decide)
    refine ⟨rm_i m 51 11 (nI (rk (bkG S F0 Y Z w av (S 2)))), ?_, ?_, ⟨fun p i hp => ?_, fun p hp => rfl⟩⟩
    · rw [if_neg (by decide)]
      unfold se_noteLess
      rw [hI.1, if_pos (show nI 1 = 1 from rfl), prG_1]
      rfl
    · unfold addD
      rw [if_pos ⟨nbG_0 (hw (by decide)), hlt⟩]
      exact ⟨by rw [mi_get, if_neg (by omega)]; exact hI.1, by rw [mi_get, if_pos ⟨rfl, rfl⟩], rk_lt hb⟩
    · rw [mi_get, if_neg]
      rintro ⟨rfl, rfl⟩
      exact hp (by unfold Pre; omega)
def InvB (S : Nat → Nat) (m : rn_Mem) (v : Nat → Nat) : Prop := m.1 51 10 = nI 2 ∧ ∀ i, i ≤ S 1 → m.1 69 i = nI (v i) ∧ v i ≤ 99
def addB (S F0 : Nat → Nat) (Y : Nat → Nat → Nat) (Z : Nat → Nat → Nat → Nat) (v : Nat → Nat) (w av : Nat → Nat) : Nat → Nat := fun i => if bkG S F0 Y Z w av (S 2) = 0 ∧ i ≤ S 1 ∧ (i = 0 ∨ (byG S F0 Z w av (S 2)).testBit (4 * (i - 1)) = false) ∧ nbG S F0 Z w av (S 2) < v i then nbG S F0 Z w av (S 2) else v i
theorem promB_l50 {S : Nat → Nat} {nb by' : Nat} {v : Nat → Nat} {m : rn_Mem} (hn4 : S 1 ≤ 4) (h1 : m.1 52 1 = nI (S 1)) (hI : InvB S m v) (hnb : nb < 100) (hby : by' < 65536) : ∀ (s c nf : Nat), c + s = S 1 → s < nf → ∃ b : Bool, se_promises_l50 (nI nb) (nI by') nf (nI c) m = some (if b = true then .inl (1, m) else .inr m) ∧ (b = false → ∀ d, c ≤ d → d < S 1 → by'.testBit (4 * d) = false → v (d + 1) ≤ nb) := by
  intro s
  induction s with
  | zero =>
    intro c nf e hnf
    obtain ⟨nf, rfl⟩ : ∃ e, nf = e + 1 := ⟨nf - 1, by omega⟩
    refine ⟨false, ?_, fun _ d h2 h3 => by omega⟩
    unfold se_promises_l50
    rw [h1, if_neg (by rw [nI_ltI (by omega) (by omega)]; omega)]
    rfl
  | succ s ih =>
    intro c nf e hnf
    obtain ⟨nf, rfl⟩ : ∃ e, nf = e + 1 := ⟨nf - 1, by omega⟩
    obtain ⟨b, p1, p2⟩ := ih (c + 1) nf (by omega) (by omega)
    have hv := hI.2 (c + 1) (by omega)
    unfold se_promises_l50
    rw [h1, if_pos (by rw [nI_ltI (by omega) (by omega)]; omega), m4k, nI_1]
    simp only [bit_0 (show by' < 2 ^ 31 by omega) (show 4 * c < 32 by omega)]
    by_cases z1 : by'.testBit (4 * c) = false
    · rw [if_pos z1, if_pos ((in_n (by omega)).mpr (by omega)), nI_n (by omega), hv.1]
      by_cases z2 : nb < v (c + 1)
      · exact ⟨true, by rw [if_pos (by rw [nI_ltI (by omega) (by omega)]; exact z2)]; rfl, fun z => (by cases z)⟩
      · refine ⟨b, by rw [if_neg (by rw [nI_ltI (by omega) (by omega)]; exact z2)]; exact p1, fun hb d h2 h3 h4 => ?_⟩
        by_cases z : d = c
        · rw [z]; omega
        · exact p2 hb d (by omega) h3 h4
    · refine ⟨b, by rw [if_neg z1]; exact p1, fun hb d h2 h3 h4 => ?_⟩
      by_cases z : d = c
      · rw [z] at h4; exact absurd h4 z1
      · exact p2 hb d (by omega) h3 h4
theorem lessB_l32 {S : Nat → Nat} {nb by' : Nat} {v : Nat → Nat} (hn4 : S 1 ≤ 4) (hnb : nb < 100) (hby : by' < 65536) : ∀ (s c nf : Nat) (m : rn_Mem), c + s = S 1 → s < nf → m.1 52 1 = nI (S 1) → (∀ i, i ≤ S 1 → m.1 69 i = nI (if i ≤ c ∧ i ≠ 0 ∧ by'.testBit (4 * (i - 1)) = false ∧ nb < v i then nb else v i) ∧ v i ≤ 99) → ∃ m2, se_noteLess_l32 (nI nb) (nI by') nf (nI c) m = some m2 ∧ (∀ i, i ≤ S 1 → m2.1 69 i = nI (if i ≠ 0 ∧ by'.testBit (4 * (i - 1)) = false ∧ nb < v i then nb else v i)) ∧ Kp (fun p => p = 69) m m2 := by
  intro s
  induction s with
  | zero =>
    intro c nf m e hnf h1 hv
    obtain ⟨nf, rfl⟩ : ∃ e, nf = e + 1 := ⟨nf - 1, by omega⟩
    refine ⟨m, ?_, fun i hi => ?_, Kp.rf⟩
    · unfold se_noteLess_l32
      rw [h1, if_neg (by rw [nI_ltI (by omega) (by omega)]; omega)]
    · rw [(hv i hi).1]
      congr 1
      by_cases z : i ≠ 0 ∧ by'.testBit (4 * (i - 1)) = false ∧ nb < v i
      · rw [if_pos z, if_pos ⟨by omega, z⟩]
      · rw [if_neg z, if_neg (fun y => z y.2)]
  | succ s ih =>
    intro c nf m e hnf h1 hv
    obtain ⟨nf, rfl⟩ : ∃ e, nf = e + 1 := ⟨nf - 1, by omega⟩
    have hvc := hv (c + 1) (by omega)
    rw [if_neg (fun y => by omega)] at hvc
    unfold se_noteLess_l32
    rw [h1, if_pos (by rw [nI_ltI (by omega) (by omega)]; omega), m4k, nI_1]
    simp only [bit_0 (show by' < 2 ^ 31 by omega) (show 4 * c < 32 by omega)]
    have hin : rn_in (nI (c + 1)) 5 = true := (in_n (by omega)).mpr (by omega)
    by_cases z1 : by'.testBit (4 * c) = false
    · rw [if_pos z1, if_pos hin, nI_n (by omega), hvc.1]
      unfold ja_min
      have hmin : (if nI nb < nI (v (c + 1)) then some (nI nb, m) else some (nI (v (c + 1)), m)) = some (nI (if nb < v (c + 1) then nb else v (c + 1)), m) := by
        by_cases z : nb < v (c + 1)
        · rw [if_pos (by rw [nI_ltI (by omega) (by omega)]; exact z), if_pos z]
        · rw [if_neg (by rw [nI_ltI (by omega) (by omega)]; exact z), if_neg z]
      rw [hmin]
      simp only [Option.bind_some, if_pos hin]
      obtain ⟨m2, q1, q2, q3⟩ := ih (c + 1) nf (rm_i m 69 (c + 1) (nI (if nb < v (c + 1) then nb else v (c + 1)))) (by omega) (by omega) (by rw [mi_get, if_neg (by omega)]; exact h1) (fun i hi => by
        refine ⟨?_, (hv i hi).2⟩
        rw [mi_get]
        by_cases z : i = c + 1
        · rw [if_pos ⟨rfl, z⟩, z]
          congr 1
          by_cases y : nb < v (c + 1)
          · rw [if_pos y, if_pos ⟨Nat.le_refl _, by omega, by rw [show c + 1 - 1 = c by omega]; exact z1, y⟩]
          · rw [if_neg y, if_neg (fun x => y x.2.2.2)]
        · rw [if_neg (fun y => z y.2), (hv i hi).1]
          congr 1
          by_cases y : i ≤ c ∧ i ≠ 0 ∧ by'.testBit (4 * (i - 1)) = false ∧ nb < v i
          · rw [if_pos y, if_pos ⟨by omega, y.2⟩]
          · rw [if_neg y, if_neg (fun x => y ⟨by omega, x.2⟩)])
      exact ⟨m2, q1, q2, fun p hp => by rw [q3.1 p hp]; funext j; rw [mi_get, if_neg (fun z => hp z.1)], by rw [q3.2, mi_2]⟩
    · rw [if_neg z1]
      simp only [Option.bind_some]
      obtain ⟨m2, q1, q2, q3⟩ := ih (c + 1) nf m (by omega) (by omega) h1 (fun i hi => by
        refine ⟨?_, (hv i hi).2⟩
        rw [(hv i hi).1]
        congr 1
        by_cases y : i ≤ c ∧ i ≠ 0 ∧ by'.testBit (4 * (i - 1)) = false ∧ nb < v i
        · rw [if_pos y, if_pos ⟨by omega, y.2⟩]
        · rw [if_neg y, if_neg]
          rintro ⟨x1, x2, x3, x4⟩
          by_cases z : i = c + 1
          · rw [z, show c + 1 - 1 = c by omega] at x3; exact z1 x3
          · exact y ⟨by omega, x2, x3, x4⟩)
      exact ⟨m2, q1, q2, q3⟩
theorem AI_B {S F0 : Nat → Nat} {Y : Nat → Nat → Nat} {Z : Nat → Nat → Nat → Nat} (wg : WG S) (wc : WC S) (hY : YZ S F0 Y Z) : AI S F0 Y Z 2 (InvB S) (addB S F0 Y Z) := by
  obtain ⟨w1, w2, w3, w4, w5, _⟩ := wg
  have prom : ∀ (nf r : Nat) (w av : Nat → Nat) (v : Nat → Nat) (m : rn_Mem), 50 < nf → m.1 52 1 = nI (S 1) → nbG S F0 Z w av r < 100 → byG S F0 Z w av r < 65536 → bkG S F0 Y Z w av r < 64 → InvB S m v → ∃ b : Bool, se_promises nf (nI (prG S F0 Y Z 2 w av r)) (nI (byG S F0 Z w av r)) (nI (bkG S F0 Y Z w av r)) m = some (if b = true then 1 else 0, m) ∧ (b = true → bkG S F0 Y Z w av r = 0) ∧ (b = false → bkG S F0 Y Z w av r ≠ 0 ∨ (v 0 ≤ nbG S F0 Z w av r ∧ ∀ d, d < S 1 → (byG S F0 Z w av r).testBit (4 * d) = false → v (d + 1) ≤ nbG S F0 Z w av r)) := by
    intro nf r w av v m hnf h1 hnb hby hbk hI
    unfold se_promises
    rw [prG_2]
    rw [hI.1, if_neg (show ¬ nI 2 = 1 by decide)]
    by_cases z0 : bkG S F0 Y Z w av r = 0
    case neg =>
      exact ⟨false, by rw [if_neg (nI_ne0 (by omega) (by omega))]; rfl, fun z => (by cases z), fun _ => Or.inl z0⟩
    rw [if_pos (by rw [z0]; rfl), if_neg (show ¬ nI 2 = 0 by decide), (hI.2 0 (by omega)).1]
    have hv0 := (hI.2 0 (by omega)).2
    by_cases z1 : nbG S F0 Z w av r < v 0
    · exact ⟨true, by rw [if_pos (by rw [nI_ltI (by omega) (by omega)]; exact z1)]; rfl, fun _ => z0, fun z => (by cases z)⟩
    · rw [if_neg (by rw [nI_ltI (by omega) (by omega)]; exact z1)]
      obtain ⟨b, p1, p2⟩ := promB_l50 w2 h1 hI hnb hby (S 1) 0 nf (by omega) (by omega)
      refine ⟨b, ?_, fun _ => z0, fun hb => Or.inr ⟨by omega, fun d hd => p2 hb d (by omega) hd⟩⟩
      rw [show se_promises_l50 (nI (nbG S F0 Z w av r)) (nI (byG S F0 Z w av r)) nf 0 m = _ from p1]
      cases b <;> rfl
  have bnds : ∀ (r : Nat) (w av : Nat → Nat), r ≤ S 2 → VL S F0 Y w av (S 2 - r) → nbG S F0 Z w av r < 100 ∧ byG S F0 Z w av r < 65536 ∧ bkG S F0 Y Z w av r < 64 := by
    intro r w av h2 hV
    obtain ⟨a1, a2, a3, a4, a5⟩ := VL_b hY h2 hV
    exact ⟨by omega, a3, a5 wc.1⟩
  refine ⟨by omega, fun m m' v h e1 e2 e3 => ?_, fun m v h => h.1, fun nf r w av v m hnf h1 h2 hI hW hV => ?_, fun z => absurd rfl z, fun nf w av v m hnf hI hW hV hp hw hpr => ?_⟩
  · exact ⟨by rw [e1 10 (by omega)]; exact h.1, by rw [e2]; exact h.2⟩
  · obtain ⟨a1, a2, a3⟩ := bnds r w av h2 hV
    obtain ⟨b, p1, p2, p3⟩ := prom nf r w av v m hnf hW.1 a1 a2 a3 hI
    refine ⟨b, p1, fun hb w' av' y1 y2 => ?_⟩
    funext i
    unfold addB
    rw [if_neg]
    rintro ⟨q1, q2, q3, q4⟩
    have e1 : bkG S F0 Y Z w' av' r = bkG S F0 Y Z w av r := bkG_c h2 y1 y2
    have e2 : byG S F0 Z w' av' r = byG S F0 Z w av r := byG_c h2 y1 y2
    have e3 : nbG S F0 Z w' av' r = nbG S F0 Z w av r := nbG_c h2 y1 y2
    have m1 := nbG_m (S := S) (F0 := F0) (Z := Z) (w := w') (av := av') (d := S 2 - r) (r := r)
    rw [show r + (S 2 - r) = S 2 by omega, e3] at m1
    rcases p3 hb with p3 | ⟨p3, p4⟩
    · apply p3
      rw [← e1]
      have hle : bkG S F0 Y Z w' av' r ≤ bkG S F0 Y Z w' av' (S 2) := or_le fun x hx => by
        have := bkG_m (d := S 2 - r) hx
        rw [show r + (S 2 - r) = S 2 by omega] at this
        exact this
      omega
    · rcases q3 with q3 | q3
      · rw [q3] at q4; omega
      · by_cases z : i = 0
        · rw [z] at q4; omega
        · have := p4 (i - 1) (by omega) (by
            rw [← e2]
            cases q5 : (byG S F0 Z w' av' r).testBit (4 * (i - 1)) with
            | false => rfl
            | true =>
              have := byG_m (d := S 2 - r) q5
              rw [show r + (S 2 - r) = S 2 by omega, q3] at this
              cases this)
          rw [show i - 1 + 1 = i by omega] at this
          omega
  · obtain ⟨m', hI', hW', hpm⟩ := hpr
    obtain ⟨a1, a2, a3⟩ := bnds (S 2) w av (Nat.le_refl _) (by rw [Nat.sub_self]; exact hV)
    obtain ⟨b, p1, p2, p3⟩ := prom nf (S 2) w av v m' hnf hW'.1 a1 a2 a3 hI'
    rw [p1] at hpm
    have hb : b = true := by
      cases b with
      | true => rfl
      | false =>
        injection hpm with hpm
        injection hpm with hpm
        exact absurd hpm (by decide)
    have hbk := p2 hb
    have hv0 := hI.2 0 (by omega)
    have hmin : ja_min nf (m.1 69 0) (nI (nbG S F0 Z w av (S 2))) m = some (nI (if nbG S F0 Z w av (S 2) < v 0 then nbG S F0 Z w av (S 2) else v 0), m) := by
      unfold ja_min
      rw [hv0.1]
      by_cases z : nbG S F0 Z w av (S 2) < v 0
      · rw [if_pos (by rw [nI_ltI (by omega) (by omega)]; exact z), if_pos z]
      · rw [if_neg (by rw [nI_ltI (by omega) (by omega)]; exact z), if_neg z]
    obtain ⟨m2, q1, q2, q3⟩ := lessB_l32 (S := S) (nb := nbG S F0 Z w av (S 2)) (by' := byG S F0 Z w av (S 2)) (v := fun i => if i = 0 then (if nbG S F0 Z w av (S 2) < v 0 then nbG S F0 Z w av (S 2) else v 0) else v i) w2 a1 a2 (S 1) 0 nf (rm_i m 69 0 (nI (if nbG S F0 Z w av (S 2) < v 0 then nbG S F0 Z w av (S 2) else v 0))) (by omega) (by omega) (by rw [mi_get, if_neg (by omega)]; exact hW.1) (fun i hi => by
      rw [mi_get]
      by_cases z : i = 0
      · subst z
        refine ⟨?_, ?_⟩
        · rw [if_pos ⟨rfl, rfl⟩]
          congr 1
        · show (if (0 : Nat) = 0 then (if nbG S F0 Z w av (S 2) < v 0 then nbG S F0 Z w av (S 2) else v 0) else v 0) ≤ 99
          rw [if_pos rfl]
          split <;> omega
      · rw [if_neg (fun y => z y.2), if_neg (fun y => by omega)]
        simp only [z, if_false]
        exact hI.2 i hi)
    have hk2 : ∀ p i, ¬ Pre p i → m2.1 p i = m.1 p i := by
      intro p i hp
      have h69 : p ≠ 69 := fun z => hp (by unfold Pre; omega)
      rw [q3.1 p h69, mi_get, if_neg (fun z => h69 z.1)]
    refine ⟨m2, ?_, ⟨?_, fun i hi => ?_⟩, hk2, fun p hp => ?_⟩
    · rw [if_neg (by decide), prG_2]
      unfold se_noteLess
      rw [hI.1, if_neg (show ¬ nI 2 = 1 by decide), hmin]
      simp only [Option.bind_some]
      rw [show se_noteLess_l32 (nI (nbG S F0 Z w av (S 2))) (nI (byG S F0 Z w av (S 2))) nf 0 _ = some m2 from q1]
      rfl
    · rw [hk2 51 10 (by unfold Pre; omega)]; exact hI.1
    · have hvi := (hI.2 i hi).2
      rw [q2 i hi]
      unfold addB
      refine ⟨?_, by split <;> omega⟩
      congr 1
      by_cases z : i = 0
      · subst z
        by_cases y : nbG S F0 Z w av (S 2) < v 0
        · simp [hbk, y]
        · simp [hbk, y]
      · by_cases y : (byG S F0 Z w av (S 2)).testBit (4 * (i - 1)) = false ∧ nbG S F0 Z w av (S 2) < v i
        · simp [hbk, y, z, hi]
        · simp only [if_neg z]
          rw [if_neg (show ¬ (i ≠ 0 ∧ (byG S F0 Z w av (S 2)).testBit (4 * (i - 1)) = false ∧ nbG S F0 Z w av (S 2) < v i) from fun x => y x.2), if_neg (fun x => y ⟨x.2.2.1.elim (fun q => absurd q z) id, x.2.2.2⟩)]
    · rw [q3.2]; rfl
