/-! ALL CALLS: the relation that every call keeps -/
def rs (S : Nat → Nat) (j : Nat) : Nat := if j < 88 ∧ j ≠ 11 then S j else 0
theorem rs_j {S : Nat → Nat} {j : Nat} (h : j < 88 ∧ j ≠ 11) : rs S j = S j := by unfold rs; rw [if_pos h]
theorem rs_e {S S2 : Nat → Nat} (h : ∀ j, j ≠ 11 → j < 88 → S2 j = S j) : rs S2 = rs S := by
  funext j
  unfold rs
  by_cases y : j < 88 ∧ j ≠ 11
  · rw [if_pos y, if_pos y]; exact h j y.2 y.1
  · rw [if_neg y, if_neg y]
theorem rs_WG {S : Nat → Nat} (wg : WG S) : WG (rs S) := by
  unfold WG
  rw [rs_j (j := 1) (by omega), rs_j (j := 2) (by omega), rs_j (j := 3) (by omega), rs_j (j := 4) (by omega), rs_j (j := 5) (by omega), rs_j (j := 6) (by omega), rs_j (j := 7) (by omega), rs_j (j := 8) (by omega)]
  exact wg
theorem rs_uc {S : Nat → Nat} (w2 : S 1 ≤ 4) (hs : ∀ c, c < S 1 → S (12 + c) ≤ 12) : uc (rs S) = uc S := by
  unfold uc
  rw [rs_j (j := 1) (by omega)]
  refine fb_sm_cong fun c hc => ?_
  have := hs c hc
  rw [rs_j (j := 12 + c) (by omega)]
  exact fb_ct_cong fun i hi => by rw [rs_j (j := 16 + 12 * c + i) (by omega)]
theorem rs_WT {S : Nat → Nat} (wg : WG S) (wt : WT S) : WT (rs S) := by
  have w2 := wg.2.1
  unfold WT
  rw [rs_j (j := 9) (by omega), rs_j (j := 1) (by omega), rs_j (j := 2) (by omega), rs_j (j := 3) (by omega)]
  refine ⟨wt.1, fun h9 => ?_⟩
  have hs : ∀ c, c < S 1 → S (12 + c) ≤ 12 := fun c hc => hp_le wg wt h9 hc
  obtain ⟨t1, t2, t3, t4, t5⟩ := wt.2 h9
  have e1 : ∀ c, c < S 1 → rs S (12 + c) = S (12 + c) := fun c hc => rs_j (by omega)
  have e2 : ∀ c i, c < S 1 → i < S (12 + c) → rs S (16 + 12 * c + i) = S (16 + 12 * c + i) := fun c i hc hi => rs_j (by have := hs c hc; omega)
  refine ⟨fun c hc => by rw [e1 c hc]; exact t1 c hc, ?_, fun c i hc hi => ?_, fun c i d j hc hi hd hj h1 h2 => ?_, by rw [rs_uc w2 hs]; exact t5⟩
  · rw [← t2]; exact fb_sm_cong fun c hc => e1 c hc
  · rw [e1 c hc] at hi
    rw [e2 c i hc hi]; exact t3 c i hc hi
  · rw [e1 c hc] at hi
    rw [e1 d hd] at hj
    rw [e2 c i hc hi] at h1 h2
    rw [e2 d j hd hj] at h2
    exact t4 c i d j hc hi hd hj h1 h2
theorem rs_WC {S : Nat → Nat} (wc : WC S) : WC (rs S) := by
  have h6 := wc.1
  unfold WC
  rw [rs_j (j := 10) (by omega)]
  refine ⟨h6, fun k hk => ?_⟩
  have := wc.2 k hk
  unfold WK at *
  rw [rs_j (j := 1) (by omega), rs_j (j := 2) (by omega), rs_j (j := 3) (by omega), rs_j (j := 64 + 4 * k) (by omega), rs_j (j := 65 + 4 * k) (by omega), rs_j (j := 66 + 4 * k) (by omega), rs_j (j := 67 + 4 * k) (by omega)]
  exact this
theorem rs_WF {S : Nat → Nat} (hw : WF S) : WF (rs S) := by
  have e11 : rs S 11 = 0 := by unfold rs; rw [if_neg (by omega)]
  rcases hw with ⟨h1, h2, h3, h4⟩ | ⟨h1, wg, wt, wc, wr⟩
  · exact Or.inl ⟨by rw [rs_j (by omega)]; exact h1, by rw [rs_j (by omega)]; exact h2, by rw [rs_j (by omega)]; exact h3, e11⟩
  · refine Or.inr ⟨by rw [rs_j (by omega)]; exact h1, rs_WG wg, rs_WT wg wt, rs_WC wc, ?_⟩
    unfold WR
    rw [e11]
    exact ⟨by omega, fun h => by omega⟩
theorem rs_c {S V : Nat → Nat} {m : rn_Mem} (hw : WF S) (hc : cSt S V 3 m) : cS3 (rs S) V 3 m := by
  obtain ⟨c1, c2, c3, _⟩ := hc
  refine ⟨?_, ?_, ?_, trivial⟩
  · unfold cGa at *
    rw [rs_j (j := 0) (by omega), rs_j (j := 1) (by omega), rs_j (j := 2) (by omega), rs_j (j := 3) (by omega), rs_j (j := 4) (by omega), rs_j (j := 5) (by omega), rs_j (j := 6) (by omega), rs_j (j := 7) (by omega), rs_j (j := 8) (by omega)]
    exact c1
  · obtain ⟨t1, t2⟩ := c2
    refine ⟨by rw [rs_j (j := 9) (by omega)]; exact t1, fun h9 => ?_⟩
    rw [rs_j (j := 9) (by omega)] at h9
    obtain ⟨h0, wg, wt, wc⟩ := WF_9 hw h9
    have w2 := wg.2.1
    have hs : ∀ c, c < S 1 → S (12 + c) ≤ 12 := fun c hc => hp_le wg wt h9 hc
    have e1 : ∀ c, c < S 1 → rs S (12 + c) = S (12 + c) := fun c hc => rs_j (by omega)
    have e2 : ∀ c i, c < S 1 → i < S (12 + c) → rs S (16 + 12 * c + i) = S (16 + 12 * c + i) := fun c i hc hi => rs_j (by have := hs c hc; omega)
    obtain ⟨f1, f2, f3, B, f4, f5, f6⟩ := t2 h9
    rw [rs_j (j := 1) (by omega), rs_uc w2 hs]
    refine ⟨fun c hc => by rw [e1 c hc]; exact f1 c hc, fun c i hc hi => ?_, f3, B, f4, f5, fun x hx => ?_⟩
    · rw [e1 c hc] at hi
      rw [e2 c i hc hi]; exact f2 c i hc hi
    · rw [f6 x hx]
      constructor
      · rintro ⟨c, i, hc, hi, e⟩
        exact ⟨c, i, hc, by rw [e1 c hc]; exact hi, by rw [e2 c i hc hi]; exact e⟩
      · rintro ⟨c, i, hc, hi, e⟩
        rw [e1 c hc] at hi
        rw [e2 c i hc hi] at e
        exact ⟨c, i, hc, hi, e⟩
  · have h6 : S 10 ≤ 6 := by
      rcases hw with h | h
      · omega
      · exact h.2.2.2.1.1
    unfold cCl at *
    rw [rs_j (j := 10) (by omega)]
    refine ⟨c3.1, fun k hk => ?_⟩
    rw [rs_j (j := 64 + 4 * k) (by omega), rs_j (j := 65 + 4 * k) (by omega), rs_j (j := 66 + 4 * k) (by omega), rs_j (j := 67 + 4 * k) (by omega)]
    exact c3.2 k hk
theorem rs_z {S : Nat → Nat} {z : Nat → Int32} (hz : zOK S z) : zO3 (rs S) z := ⟨fun k h1 h2 h3 h4 => by rw [rs_j h1]; exact hz.1 k (by omega) h2 h3 h4, by rw [rs_j (by omega)]; exact hz.2.1, by rw [rs_j (by omega)]; exact hz.2.2.1, fun k h1 h2 => by rw [rs_j (by omega)]; exact hz.2.2.2 k h1 h2⟩
theorem VS_e {S S2 : Nat → Nat} (h : ∀ j, (j = 1 ∨ j = 2 ∨ j = 4 ∨ j = 5 ∨ j = 6 ∨ 88 ≤ j) → S2 j = S j) : VS S2 = VS S := by
  obtain ⟨s1, s2, s3⟩ := Sl_c (S := S) (S2 := S2) (fun j hj => h j (by omega))
  have e : Sf S2 = Sf S := by funext i; unfold Sf; exact h _ (by omega)
  funext i
  unfold VS
  rw [s1, e, h 1 (by omega), h 2 (by omega), h 4 (by omega), h 5 (by omega), h 6 (by omega), h 88 (by omega)]
theorem CH_0 {S : Nat → Nat} {m : rn_Mem} (h : m.1 0 8 = 0) : CH S m := ⟨0, h, by omega, fun t => absurd t (by decide), fun t => absurd t (by decide), fun t => absurd t (by decide), fun t => absurd t (by decide), fun t => absurd t (by decide)⟩
theorem CH_k {S : Nat → Nat} {m m2 : rn_Mem} (h : CH S m) (h0 : ∀ i, 8 ≤ i → i ≤ 10 → m2.1 0 i = m.1 0 i) (h1 : m2.2 51 = m.2 51) (h2 : ∀ i, 15 ≤ i → i ≤ 17 → m2.1 51 i = m.1 51 i) (h3 : m2.1 68 = m.1 68) (h4 : m2.1 69 = m.1 69) : CH S m2 := by
  obtain ⟨fr, a1, a2, a3, a4, a5, a6, a7⟩ := h
  exact ⟨fr, by rw [h0 8 (by omega) (by omega)]; exact a1, a2, fun t => ⟨(a3 t).1, CA_k (a3 t).2 h1 (h2 15 (by omega) (by omega)) (h2 16 (by omega) (by omega)) h3⟩, fun t => ⟨(a4 t).1, CB_k (a4 t).2 h4⟩, fun t => ⟨(a5 t).1, CD_k (a5 t).2 (h2 17 (by omega) (by omega))⟩, fun t => ⟨(a6 t).1, by rw [h0 9 (by omega) (by omega)]; exact (a6 t).2⟩, fun t => ⟨(a7 t).1, by rw [h0 10 (by omega) (by omega)]; exact (a7 t).2⟩⟩
/-- the image that may be kept -/
def Im (m : rn_Mem) : Prop := (m.1 0 7 = 0 ∧ m.1 115 46 = 0) ∨ (m.1 0 7 = 1 ∧ m.1 115 46 = 1 ∧ ∃ S, WF S ∧ zOK S (m.1 149) ∧ cSt S (VS S) 19 m)
def Sta (m : rn_Mem) : Prop := ∃ S, WF S ∧ zOK S (m.1 116) ∧ cSt S (VS S) 3 m ∧ CH (rs S) m
def Rl (m : rn_Mem) : Prop := Rsh m ∧ Rtp m ∧ Sta m ∧ Im m
theorem Rsh_k {m m2 : rn_Mem} (h : Rsh m) (hk : ∀ p, Psh p → m2.1 p = m.1 p) : Rsh m2 := by
  intro s hs
  have := h s hs
  rw [hk (107 + 2 * s) (by unfold Psh; omega), hk (107 + 2 * s + 1) (by unfold Psh; omega), hk 150 (by unfold Psh; omega), hk 151 (by unfold Psh; omega), hk 152 (by unfold Psh; omega)]
  exact this
theorem Rtp_k {m m2 : rn_Mem} (h : Rtp m) (h1 : m2.1 1 1 = m.1 1 1) (h2 : m2.1 1 2 = m.1 1 2) (h3 : m2.1 2 = m.1 2) (h4 : m2.1 115 2 = m.1 115 2) (h5 : m2.1 117 = m.1 117) : Rtp m2 := by
  unfold Rtp at *
  rw [h1, h2, h3, h4, h5]
  exact h
theorem Im_k {m m2 : rn_Mem} (h : Im m) (h1 : m2.1 0 7 = m.1 0 7) (h2 : m2.1 115 46 = m.1 115 46) (h3 : m2.1 149 = m.1 149) (h4 : ∀ p, 20 ≤ p → p ≤ 34 → m2.1 p = m.1 p) : Im m2 := by
  rcases h with ⟨a, b⟩ | ⟨a, b, S, c, d, e⟩
  · exact Or.inl ⟨by rw [h1]; exact a, by rw [h2]; exact b⟩
  · exact Or.inr ⟨by rw [h1]; exact a, by rw [h2]; exact b, S, c, by rw [h3]; exact d, cSt_k e fun q h5 h6 => h4 q (by omega) (by omega)⟩
/-- what sheets, tape and image look at -/
def FI (p i : Nat) : Prop := Psh p ∨ (p = 1 ∧ (i = 1 ∨ i = 2)) ∨ p = 2 ∨ (p = 115 ∧ (i = 2 ∨ i = 46)) ∨ p = 117 ∨ (p = 0 ∧ i = 7) ∨ p = 149 ∨ (20 ≤ p ∧ p ≤ 34)
theorem RTI {m m2 : rn_Mem} (h : Rl m) (hk : ∀ p i, FI p i → m2.1 p i = m.1 p i) : Rsh m2 ∧ Rtp m2 ∧ Im m2 := by
  obtain ⟨a, b, _, d⟩ := h
  have hp : ∀ p, (∀ i, FI p i) → m2.1 p = m.1 p := fun p h => funext fun i => hk p i (h i)
  refine ⟨Rsh_k a fun p h => hp p fun i => Or.inl h, Rtp_k b (hk 1 1 (by unfold FI; omega)) (hk 1 2 (by unfold FI; omega)) (hp 2 fun i => by unfold FI; omega) (hk 115 2 (by unfold FI; omega)) (hp 117 fun i => by unfold FI; omega), Im_k d (hk 0 7 (by unfold FI; omega)) (hk 115 46 (by unfold FI; omega)) (hp 149 fun i => by unfold FI; omega) (fun p h1 h2 => hp p fun i => by unfold FI; omega)⟩
/-- what the state and its caches look at -/
def FS (p i : Nat) : Prop := p = 116 ∨ (4 ≤ p ∧ p ≤ 18) ∨ (p = 0 ∧ 8 ≤ i ∧ i ≤ 10) ∨ (p = 51 ∧ 15 ≤ i ∧ i ≤ 17) ∨ p = 68 ∨ p = 69
theorem Sta_k {S : Nat → Nat} {m m2 : rn_Mem} (hw : WF S) (hz : zOK S (m.1 116)) (hc : cSt S (VS S) 3 m) (hC : CH (rs S) m) (hk : ∀ p i, FS p i → m2.1 p i = m.1 p i) (h2 : m2.2 51 = m.2 51) : Sta m2 := by
  have hp : ∀ p, (∀ i, FS p i) → m2.1 p = m.1 p := fun p h => funext fun i => hk p i (h i)
  exact ⟨S, hw, by rw [hp 116 fun i => by unfold FS; omega]; exact hz, cSt_k hc fun q h1 h2 => hp q fun i => by unfold FS; omega, CH_k hC (fun i h1 h2 => hk 0 i (by unfold FS; omega)) h2 (fun i h1 h2 => hk 51 i (by unfold FS; omega)) (hp 68 fun i => by unfold FS; omega) (hp 69 fun i => by unfold FS; omega)⟩
theorem Rl_k {m m2 : rn_Mem} (h : Rl m) (hk : ∀ p i, FI p i ∨ FS p i → m2.1 p i = m.1 p i) (h2 : m2.2 51 = m.2 51) : Rl m2 := by
  obtain ⟨r1, r2, r3⟩ := RTI h fun p i t => hk p i (Or.inl t)
  obtain ⟨S, a1, a2, a3, a4⟩ := h.2.2.1
  exact ⟨r1, r2, Sta_k a1 a2 a3 a4 (fun p i t => hk p i (Or.inr t)) h2, r3⟩
theorem Rl_r {P : Nat → Prop} {m m2 : rn_Mem} (h : Rl m) (hk : Kr P m m2) (hP : ∀ p, P p → 51 < p ∧ p ≠ 68 ∧ p ≠ 69 ∧ p ≠ 116 ∧ p ≠ 117 ∧ p ≠ 115 ∧ p < 149 ∧ ¬ (107 ≤ p ∧ p ≤ 114)) : Rl m2 := by
  refine Rl_k h (fun p i t => ?_) ?_
  · rw [(hk p fun q => ?_).1]
    have := hP p q
    unfold FI FS Psh at t
    omega
  · rw [(hk 51 fun q => by have := hP 51 q; omega).2]
