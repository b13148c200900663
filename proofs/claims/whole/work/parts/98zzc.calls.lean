/-! ALL CALLS: each keeps the relation -/
theorem RI {m m2 : rn_Mem} (h : Rl m) (hk : ∀ p i, FI p i → ¬ (p = 1 ∨ p = 2 ∨ p = 117 ∨ (p = 115 ∧ i = 2)) → m2.1 p i = m.1 p i) : Rsh m2 ∧ Im m2 := by
  obtain ⟨a, b, _, d⟩ := h
  refine ⟨Rsh_k a fun p h => funext fun i => hk p i (Or.inl h) (by unfold Psh at h; omega), Im_k d (hk 0 7 (by unfold FI; omega) (by omega)) (hk 115 46 (by unfold FI; omega) (by omega)) (funext fun i => hk 149 i (by unfold FI; omega) (by omega)) (fun p h1 h2 => funext fun i => hk p i (by unfold FI; omega) (by omega))⟩
theorem G_type : PS_type Rl := by
  intro n hn w k m h
  obtain ⟨r, m1, m2, a1, a2, a3, a4, a5⟩ := L_type hn w k m h.2.1
  obtain ⟨r1, r2⟩ := RI (m2 := m2) h fun p i t1 t2 => a4 p i (by unfold Ptp; omega)
  obtain ⟨S, b1, b2, b3, b4⟩ := h.2.2.1
  exact ⟨r, m1, m2, a1, a2, r1, a3, Sta_k b1 b2 b3 b4 (fun p i t => a4 p i (by unfold FS at t; unfold Ptp; omega)) (by rw [a5]), r2⟩
theorem G_game : PS_game Rl := by
  intro n hn m h
  obtain ⟨r, m1, m2, a1, a2, a3, a4⟩ := L_game hn m h.2.1
  obtain ⟨S, b1, b2, b3, b4⟩ := h.2.2.1
  rcases a4 with ⟨a4, a5⟩ | ⟨S2, c1, c2, c3, c4, a4, a5⟩
  · obtain ⟨r1, r2⟩ := RI (m2 := m2) h fun p i t1 t2 => a4 p i (by unfold FI Psh at t1; unfold Pg0; omega)
    exact ⟨r, m1, m2, a1, a2, r1, a3, Sta_k b1 b2 b3 b4 (fun p i t => a4 p i (by unfold FS at t; unfold Pg0; omega)) (by rw [a5]), r2⟩
  · obtain ⟨r1, r2⟩ := RI (m2 := m2) h fun p i t1 t2 => a4 p i (by unfold FI Psh at t1; unfold Pg1 Pg0; omega)
    exact ⟨r, m1, m2, a1, a2, r1, a3, ⟨S2, c1, c2, c3 _, CH_0 c4⟩, r2⟩
theorem G_table : PS_table Rl := by
  intro n hn m h
  obtain ⟨S, b1, b2, b3, b4⟩ := h.2.2.1
  obtain ⟨r, m1, m2, a1, a2, a3, a4⟩ := L_table hn m h.2.1 S (VS S) b1 b3 b2
  rcases a4 with ⟨a4, a5⟩ | ⟨S2, c1, c2, c3, c4, c5, a4, a5⟩
  · obtain ⟨r1, r2⟩ := RI (m2 := m2) h fun p i t1 t2 => a4 p i (by unfold FI Psh at t1; unfold Pt0; omega)
    exact ⟨r, m1, m2, a1, a2, r1, a3, Sta_k b1 b2 b3 b4 (fun p i t => a4 p i (by unfold FS at t; unfold Pt0; omega)) (by rw [a5]), r2⟩
  · obtain ⟨r1, r2⟩ := RI (m2 := m2) h fun p i t1 t2 => a4 p i (by unfold FI Psh at t1; unfold Pt1 Pt0; omega)
    exact ⟨r, m1, m2, a1, a2, r1, a3, ⟨S2, c1, c2, by rw [VS_e fun j hj => c5 j (by omega)]; exact c3, CH_0 c4⟩, r2⟩
theorem G_told : PS_told Rl := by
  intro n hn a m h
  obtain ⟨S, b1, b2, b3, b4⟩ := h.2.2.1
  obtain ⟨r, a1, a2⟩ := A_told (n := n) a m S (VS S) ⟨b1, b2, b3⟩
  exact ⟨r, m, m, a1, a2, h⟩
theorem G_set : PS_set Rl := by
  intro n hn a b m h
  obtain ⟨S, b1, b2, b3, b4⟩ := h.2.2.1
  rcases C_set2 S (VS S) m b1 b3 a b with ⟨r, a1, a2⟩ | ⟨S2, m1, a1, c1, c2, c3, c4, ⟨c5, c6⟩, c7⟩
  · exact ⟨r, m, m, a1 n, a2 n m b2, h⟩
  · obtain ⟨m2, d1, d2, d3⟩ := c7 n m1 (by rw [show m1.1 116 = m.1 116 from funext fun i => c5 116 i (by unfold Pse; omega)]; exact b2)
    obtain ⟨r1, r2, r3⟩ := RTI (m2 := m2) h fun p i t => by
      rw [(d3 p (by unfold FI Psh at t; omega)).1, c5 p i (by unfold FI Psh at t; unfold Pse; omega)]
    refine ⟨1, m1, m2, a1 n, d1, r1, r2, ⟨S2, c1, d2, ?_, CH_0 (by rw [(d3 0 (by omega)).1]; exact c4)⟩, r3⟩
    have h2 : cSt S2 (VS S) 3 m2 := cSt_k c2 fun q h1 h2 => (d3 q (by omega)).1
    obtain ⟨e1, e2, e3, e4⟩ := h2
    exact ⟨e1, e2, e3, e4.1, fun t => by omega⟩
theorem G_heap : PS_heap Rl := by
  intro n hn a b m h
  obtain ⟨S, b1, b2, b3, b4⟩ := h.2.2.1
  obtain ⟨r, a1, a2⟩ := C_heap S (VS S) m b1 b3 a b
  exact ⟨r, m, m, a1 n, a2 n m b2, h⟩
theorem G_wins : PS_wins Rl := by
  intro n hn a b m h
  unfold pN at hn
  obtain ⟨S, b1, b2, b3, b4⟩ := h.2.2.1
  obtain ⟨r, a1, a2⟩ := C_wins S (VS S) m b1 b3 a b n (by omega)
  obtain ⟨m2, c1, c2⟩ := a2 m b2
  exact ⟨r, m, m2, a1, c1, Rl_r h c2 fun p hp => by omega⟩
theorem G_clue : PS_clue Rl := by
  intro n hn k a b c m h
  obtain ⟨S, b1, b2, b3, b4⟩ := h.2.2.1
  rcases C_clue2 S (VS S) m b1 b3 k a b c with ⟨r, a1, a2⟩ | ⟨r, S2, m1, a1, c1, c2, c3, c4, ⟨c5, c6⟩, c7⟩
  · exact ⟨r, m, m, a1 n, a2 n m b2, h⟩
  · obtain ⟨m2, d1, d2, d3⟩ := c7 n m1 (by rw [show m1.1 116 = m.1 116 from funext fun i => c5 116 i (by unfold Pcl; omega)]; exact b2)
    obtain ⟨r1, r2, r3⟩ := RTI (m2 := m2) h fun p i t => by
      rw [(d3 p (by unfold FI Psh at t; omega)).1, c5 p i (by unfold FI Psh at t; unfold Pcl; omega)]
    refine ⟨r, m1, m2, a1 n, d1, r1, r2, ⟨S2, c1, d2, ?_, CH_0 (by rw [(d3 0 (by omega)).1]; exact c4)⟩, r3⟩
    rw [VS_e fun j hj => c3 j (by omega)]
    exact cSt_k c2 fun q h1 h2 => (d3 q (by omega)).1
theorem sv_WF {S : Nat → Nat} (hw : WF S) : WF (sv S 10 0) := by
  have e : ∀ j, j ≠ 10 → sv S 10 0 j = S j := fun j hj => sv_n hj
  have e10 : sv S 10 0 10 = 0 := sv_s
  rcases hw with ⟨h1, h2, h3, h4⟩ | ⟨h1, wg, wt, wc, wr⟩
  · exact Or.inl ⟨by rw [e 0 (by omega)]; exact h1, by rw [e 9 (by omega)]; exact h2, e10, by rw [e 11 (by omega)]; exact h4⟩
  · refine Or.inr ⟨by rw [e 0 (by omega)]; exact h1, ?_, WT_c (fun k hk => e k (by omega)) wt, ⟨by rw [e10]; omega, fun k hk => by rw [e10] at hk; omega⟩, ?_⟩
    · unfold WG
      rw [e 1 (by omega), e 2 (by omega), e 3 (by omega), e 4 (by omega), e 5 (by omega), e 6 (by omega), e 7 (by omega), e 8 (by omega)]
      exact wg
    · unfold WR at *
      rw [e 11 (by omega), e 88 (by omega), e 1 (by omega), e 2 (by omega), e 3 (by omega)]
      have e89 : ∀ i, sv S 10 0 (89 + i) = S (89 + i) := fun i => e _ (by omega)
      simp only [e89]
      exact wr
theorem G_forget : PS_forget Rl := by
  intro n hn m h
  obtain ⟨S, b1, b2, b3, b4⟩ := h.2.2.1
  obtain ⟨r, m1, m2, a1, a2, a3, a4, a5, a6, a7⟩ := L_forget (n := n) m (by rw [show m.1 9 0 = nI (S 10) from b3.2.2.1.1, zOK_at b2 (by omega) (by omega) (by omega) (by omega)])
  obtain ⟨r1, r2, r3⟩ := RTI (m2 := m2) h fun p i t => a6 p i (by unfold FI Psh at t; unfold Pfo; omega)
  have e : ∀ j, j ≠ 10 → sv S 10 0 j = S j := fun j hj => sv_n hj
  have e10 : sv S 10 0 10 = 0 := sv_s
  have hp : ∀ p, p ≠ 0 → p ≠ 9 → p ≠ 116 → m2.1 p = m.1 p := fun p h1 h2 h3 => funext fun i => a6 p i (by unfold Pfo; omega)
  refine ⟨r, m1, m2, a1, a2, r1, r2, ⟨sv S 10 0, sv_WF b1, ⟨fun k h1 h2 h3 h4 => ?_, ?_, ?_, fun k h1 h2 => ?_⟩, ?_, CH_0 a5⟩, r3⟩
  · by_cases y : k = 10
    · rw [y, e10]; exact a4
    · rw [a6 116 k (by unfold Pfo; omega), e k y]; exact b2.1 k h1 h2 h3 h4
  · rw [a6 116 4 (by unfold Pfo; omega), e 4 (by omega)]; exact b2.2.1
  · rw [a6 116 8 (by unfold Pfo; omega), e 8 (by omega)]; exact b2.2.2.1
  · rw [a6 116 k (by unfold Pfo; omega), e k (by omega)]; exact b2.2.2.2 k h1 h2
  · rw [VS_e fun j hj => e j (by omega)]
    obtain ⟨c1, c2, c3, c4⟩ := b3
    refine ⟨?_, ?_, ⟨?_, fun k hk => by rw [e10] at hk; omega⟩, ?_⟩
    · rw [hp (3 + 1) (by omega) (by omega) (by omega)]
      unfold cGa at *
      rw [e 0 (by omega), e 1 (by omega), e 2 (by omega), e 3 (by omega), e 4 (by omega), e 5 (by omega), e 6 (by omega), e 7 (by omega), e 8 (by omega)]
      exact c1
    · rw [hp (3 + 2) (by omega) (by omega) (by omega), hp (3 + 3) (by omega) (by omega) (by omega), hp (3 + 4) (by omega) (by omega) (by omega), hp (3 + 5) (by omega) (by omega) (by omega)]
      exact cTa_c (fun k hk => e k (by omega)) c2
    · rw [e10]; exact a3
    · rw [hp (3 + 11) (by omega) (by omega) (by omega), hp (3 + 12) (by omega) (by omega) (by omega), hp (3 + 13) (by omega) (by omega) (by omega), hp (3 + 14) (by omega) (by omega) (by omega), hp (3 + 15) (by omega) (by omega) (by omega)]
      exact cRo_c (fun j hj => e j (by omega)) c4
theorem Rl_sc {S : Nat → Nat} {m m1 m2 : rn_Mem} (h : Rl m) (b1 : WF S) (b2 : zOK S (m.1 116)) (b3 : cSt S (VS S) 3 m) (hC : CH (rs S) m1) (k1 : ∀ p i, (p < 51 ∨ 101 < p) → ¬ (p = 0 ∧ 8 ≤ i ∧ i ≤ 10) → m1.1 p i = m.1 p i) (k2 : Kpm m1 m2) : Rl m2 := by
  have e : ∀ p i, (p < 51 ∨ 101 < p) → ¬ (p = 0 ∧ 8 ≤ i ∧ i ≤ 10) → ¬ ((p = 115 ∧ ((6 ≤ i ∧ i ≤ 15) ∨ i = 21)) ∨ (119 ≤ p ∧ p ≤ 137)) → m2.1 p i = m.1 p i := fun p i h1 h2 h3 => by rw [k2.1 p i h3, k1 p i h1 h2]
  obtain ⟨r1, r2, r3⟩ := RTI (m2 := m2) h fun p i t => e p i (by unfold FI Psh at t; omega) (by unfold FI Psh at t; omega) (by unfold FI Psh at t; omega)
  refine ⟨r1, r2, ⟨S, b1, ?_, ?_, ?_⟩, r3⟩
  · rw [show m2.1 116 = m.1 116 from funext fun i => e 116 i (by omega) (by omega) (by omega)]; exact b2
  · exact cSt_k b3 fun q h1 h2 => funext fun i => e q i (by omega) (by omega) (by omega)
  · exact CH_k hC (fun i _ _ => k2.1 0 i (by omega)) (funext fun i => k2.2 51 i (by omega)) (fun i _ _ => k2.1 51 i (by omega)) (funext fun i => k2.1 68 i (by omega)) (funext fun i => k2.1 69 i (by omega))
theorem k1_z {S : Nat → Nat} {m m1 : rn_Mem} (b2 : zOK S (m.1 116)) (k1 : ∀ p i, (p < 51 ∨ 101 < p) → ¬ (p = 0 ∧ 8 ≤ i ∧ i ≤ 10) → m1.1 p i = m.1 p i) : zO3 (rs S) (m1.1 116) := by
  rw [show m1.1 116 = m.1 116 from funext fun i => k1 116 i (by omega) (by omega)]
  exact rs_z b2
theorem PS_SC {f g : Nat → rn_Mem → Option (Int32 × rn_Mem)} (H : ∀ (S V : Nat → Nat) (n : Nat) (m : rn_Mem), 1000000 ≤ n → WF S → cS3 S V 3 m → CH S m → SC S (f n) (g n) m) (n : Nat) (hn : pN ≤ n) (m : rn_Mem) (h : Rl m) : ∃ (r : Int32) (m1 m2 : rn_Mem), f n m = some (r, m1) ∧ g n m1 = some (r, m2) ∧ Rl m2 := by
  obtain ⟨S, b1, b2, b3, b4⟩ := h.2.2.1
  obtain ⟨r, m1, a1, a2, a3, a4⟩ := H (rs S) (VS S) n m hn (rs_WF b1) (rs_c b1 b3) b4
  have k1 : ∀ p i, (p < 51 ∨ 101 < p) → ¬ (p = 0 ∧ 8 ≤ i ∧ i ≤ 10) → m1.1 p i = m.1 p i := fun p i h1 h2 => a3.1 p i h1 (by omega)
  obtain ⟨m2, c1, c2⟩ := a4 m1 (k1_z b2 k1)
  exact ⟨r, m1, m2, a1, c1, Rl_sc h b1 b2 b3 a2 k1 c2⟩
theorem G_plays : PS_plays Rl := by
  intro n hn m h
  obtain ⟨S, b1, b2, b3, b4⟩ := h.2.2.1
  obtain ⟨r, m1, a1, a2, a3, a4⟩ := S_plays (n := n) hn (rs_WF b1) (rs_c b1 b3) b4
  have k1 : ∀ p i, (p < 51 ∨ 101 < p) → ¬ (p = 0 ∧ 8 ≤ i ∧ i ≤ 10) → m1.1 p i = m.1 p i := fun p i h1 h2 => a3.1 p i h1 (by omega)
  obtain ⟨m2, c1, c2⟩ := a4 m1 (k1_z b2 k1)
  exact ⟨r, m1, m2, a1, c1, Rl_sc h b1 b2 b3 a2 k1 c2⟩
theorem G_may : PS_may Rl := fun n hn a m h => PS_SC (f := fun n => lt_may n a) (g := fun n => mo_may n a) (fun _ _ _ _ h1 h2 h3 h4 => (S_may h1 h2 h3 h4 a).1) n hn m h
theorem G_sure : PS_sure Rl := fun n hn a m h => PS_SC (f := fun n => lt_sure n a) (g := fun n => mo_sure n a) (fun _ _ _ _ h1 h2 h3 h4 => S_sure h1 h2 h3 h4 a) n hn m h
theorem G_under : PS_under Rl := fun n hn a b m h => PS_SC (f := fun n => lt_under n a b) (g := fun n => mo_under n a b) (fun _ _ _ _ h1 h2 h3 h4 => S_under h1 h2 h3 h4 a b) n hn m h
theorem G_trick : PS_trick Rl := fun n hn a b m h => PS_SC (f := fun n => lt_trick n a b) (g := fun n => mo_trick n a b) (fun _ _ _ _ h1 h2 h3 h4 => S_trick h1 h2 h3 h4 a b) n hn m h
theorem G_first : PS_first Rl := fun n hn a m h => PS_SC (f := fun n => lt_first n a) (g := fun n => mo_first n a) (fun _ _ _ _ h1 h2 h3 h4 => S_first h1 h2 h3 h4 a) n hn m h
theorem G_fewest : PS_fewest Rl := fun n hn a m h => PS_SC (f := fun n => lt_fewest n a) (g := fun n => mo_fewest n a) (fun _ _ _ _ h1 h2 h3 h4 => S_fewest h1 h2 h3 h4 a) n hn m h
theorem G_drops : PS_drops Rl := fun n hn m h => PS_SC (f := fun n => lt_drops n) (g := fun n => mo_drops n) (fun _ _ _ _ h1 h2 h3 h4 => S_drops h1 h2 h3 h4) n hn m h
theorem G_turned : PS_turned Rl := by
  intro n hn m h
  obtain ⟨S, b1, b2, b3, b4⟩ := h.2.2.1
  obtain ⟨r, m1, a1, a2, a3, _, a4⟩ := S_turned (n := n) hn (rs_WF b1) (rs_c b1 b3) b4
  have k1 : ∀ p i, (p < 51 ∨ 101 < p) → ¬ (p = 0 ∧ 8 ≤ i ∧ i ≤ 10) → m1.1 p i = m.1 p i := fun p i h1 h2 => a3 p i h1 (by omega)
  obtain ⟨m2, c1, c2⟩ := a4 m1 (k1_z b2 k1)
  exact ⟨r, m1, m2, a1, c1, Rl_sc h b1 b2 b3 a2 k1 c2⟩
theorem G_others : PS_others Rl := by
  intro n hn a m h
  obtain ⟨S, b1, b2, b3, b4⟩ := h.2.2.1
  obtain ⟨r, m1, a1, a2, a3, _, a4⟩ := S_others (n := n) hn (rs_WF b1) (rs_c b1 b3) b4 a
  have k1 : ∀ p i, (p < 51 ∨ 101 < p) → ¬ (p = 0 ∧ 8 ≤ i ∧ i ≤ 10) → m1.1 p i = m.1 p i := fun p i h1 h2 => a3 p i h1 (by omega)
  obtain ⟨m2, c1, c2⟩ := a4 m1 (k1_z b2 k1)
  exact ⟨r, m1, m2, a1, c1, Rl_sc h b1 b2 b3 a2 k1 c2⟩
theorem G_row : PS_row Rl := by
  intro n hn a b c d m h
  unfold pN at hn
  obtain ⟨S, b1, b2, b3, b4⟩ := h.2.2.1
  rcases C_row S (VS S) m b1 b3 h.1 a b c d n (by omega) with ⟨r, m1, a1, a2, a3⟩ | ⟨S2, m1, a1, c1, c2, c3, c4, c5⟩
  · obtain ⟨m2, d1, d2⟩ := a3 m1 (by rw [(a2 116 (by unfold Pdr; omega)).1]; exact b2) (a2 150 (by unfold Pdr; omega)).1 (a2 151 (by unfold Pdr; omega)).1 (a2 152 (by unfold Pdr; omega)).1
    refine ⟨r, m1, m2, a1, d1, Rl_k h (fun p i t => ?_) ?_⟩
    · rw [(d2 p (by unfold FI FS Psh at t; unfold Pro; omega)).1, (a2 p (by unfold FI FS Psh at t; unfold Pdr; omega)).1]
    · rw [(d2 51 (by unfold Pro; omega)).2, (a2 51 (by unfold Pdr; omega)).2]
  · obtain ⟨m2, d1, d2, d3⟩ := c5 m1 (by rw [(c4 116 (by unfold Prw Pdr; omega)).1]; exact b2) (c4 150 (by unfold Prw Pdr; omega)).1 (c4 151 (by unfold Prw Pdr; omega)).1 (c4 152 (by unfold Prw Pdr; omega)).1
    obtain ⟨r1, r2, r3⟩ := RTI (m2 := m2) h fun p i t => by
      rw [(d3 p (by unfold FI Psh at t; unfold Pro; omega)).1, (c4 p (by unfold FI Psh at t; unfold Prw Pdr; omega)).1]
    refine ⟨-4, m1, m2, a1, d1, r1, r2, ⟨S2, c1, d2, cSt_k (c2 _) fun q h1 h2 => (d3 q (by unfold Pro; omega)).1, ?_⟩, r3⟩
    rw [rs_e c3]
    have e : ∀ p, (p = 0 ∨ p = 51 ∨ p = 68 ∨ p = 69) → m2.1 p = m.1 p ∧ m2.2 p = m.2 p := fun p hp => by
      rw [(d3 p (by unfold Pro; omega)).1, (d3 p (by unfold Pro; omega)).2]
      exact c4 p (by unfold Prw Pdr; omega)
    exact CH_k b4 (fun i _ _ => by rw [(e 0 (by omega)).1]) (e 51 (by omega)).2 (fun i _ _ => by rw [(e 51 (by omega)).1]) (e 68 (by omega)).1 (e 69 (by omega)).1
theorem G_leaves : PS_leaves Rl := by
  intro n hn m h
  unfold pN at hn
  obtain ⟨S, b1, b2, b3, b4⟩ := h.2.2.1
  obtain ⟨r, a1, a2⟩ := C_leaves S (VS S) m b1 b3 n (by omega)
  obtain ⟨m2, c1, c2⟩ := a2 m b2
  exact ⟨r, m, m2, a1, c1, Rl_r h c2 fun p hp => by unfold Ptr at hp; omega⟩
theorem G_who : PS_who Rl := by
  intro n hn a b m h
  unfold pN at hn
  obtain ⟨S, b1, b2, b3, b4⟩ := h.2.2.1
  obtain ⟨r, a1, a2⟩ := C_who S (VS S) m b1 b3 a b n (by omega)
  obtain ⟨m2, c1, c2⟩ := a2 m b2
  exact ⟨r, m, m2, a1, c1, Rl_r h c2 fun p hp => by unfold Ptr at hp; omega⟩
theorem G_count : PS_count Rl := by
  intro n hn a m h
  unfold pN at hn
  obtain ⟨S, b1, b2, b3, b4⟩ := h.2.2.1
  obtain ⟨r, a1, a2⟩ := C_count S (VS S) m b1 b3 a n (by omega)
  obtain ⟨m2, c1, c2⟩ := a2 m b2
  exact ⟨r, m, m2, a1, c1, Rl_r h c2 fun p hp => by unfold Ptr at hp; omega⟩
theorem G_knows : PS_knows Rl := by
  intro n hn a b m h
  unfold pN at hn
  obtain ⟨S, b1, b2, b3, b4⟩ := h.2.2.1
  obtain ⟨r, m1, a1, a2, a3⟩ := C_knows S (VS S) m b1 b3 a b n hn
  have h1 : Rl m1 := Rl_r h a2 fun p hp => by unfold Pju at hp; omega
  obtain ⟨m2, c1, c2⟩ := a3 m1 (by rw [(a2 116 (by unfold Pju; omega)).1]; exact b2)
  exact ⟨r, m1, m2, a1, c1, Rl_r h1 c2 fun p hp => by unfold Pkn at hp; omega⟩
theorem Rl_bf {S : Nat → Nat} {m m1 : rn_Mem} (h : Rl m) (b1 : WF S) (b2 : zOK S (m.1 116)) (b4 : CH (rs S) m) (hc : cSt S (VS S) 3 m1) (hk : Kr Prf m m1) : Rl m1 := by
  obtain ⟨r1, r2, r3⟩ := RTI (m2 := m1) h fun p i t => by rw [(hk p (by unfold FI Psh at t; unfold Prf; omega)).1]
  refine ⟨r1, r2, ⟨S, b1, by rw [(hk 116 (by unfold Prf; omega)).1]; exact b2, hc, ?_⟩, r3⟩
  exact CH_k b4 (fun i _ _ => by rw [(hk 0 (by unfold Prf; omega)).1]) (hk 51 (by unfold Prf; omega)).2 (fun i _ _ => by rw [(hk 51 (by unfold Prf; omega)).1]) (hk 68 (by unfold Prf; omega)).1 (hk 69 (by unfold Prf; omega)).1
theorem G_best : PS_best Rl := by
  intro n hn a m h
  unfold pN at hn
  obtain ⟨S, b1, b2, b3, b4⟩ := h.2.2.1
  obtain ⟨r, m1, a1, a2, a3, a4⟩ := C_best S m b1 b3 a n (by omega)
  have h1 : Rl m1 := Rl_bf h b1 b2 b4 a2 a3
  obtain ⟨m2, c1, c2⟩ := a4 m1 (by rw [(a3 116 (by unfold Prf; omega)).1]; exact b2)
  exact ⟨r, m1, m2, a1, c1, Rl_r h1 c2 fun p hp => by unfold Pbs Ptr Pbf at hp; omega⟩
theorem G_falls : PS_falls Rl := by
  intro n hn a m h
  unfold pN at hn
  obtain ⟨S, b1, b2, b3, b4⟩ := h.2.2.1
  obtain ⟨r, m1, a1, a2, a3, a4⟩ := C_falls S m b1 b3 a n (by omega)
  have h1 : Rl m1 := Rl_bf h b1 b2 b4 a2 a3
  obtain ⟨m2, c1, c2⟩ := a4 m1 (by rw [(a3 116 (by unfold Prf; omega)).1]; exact b2)
  exact ⟨r, m1, m2, a1, c1, Rl_r h1 c2 fun p hp => by unfold Pbs Ptr Pbf at hp; omega⟩
theorem G_image : PS_image Rl := by
  intro n hn m h
  unfold pN at hn
  obtain ⟨S, b1, b2, b3, b4⟩ := h.2.2.1
  obtain ⟨m1, a1, a2, a3, a4, a5⟩ := C_image S (VS S) m n b1 b3
  obtain ⟨m2, c1, c2, c3, c4, c5⟩ := M_image S m1 n (by omega) (by rw [show m1.1 116 = m.1 116 from funext fun i => a4 116 i (by omega)]; exact b2)
  have e : ∀ p i, ¬ (p = 0 ∧ i = 7) → ¬ (20 ≤ p ∧ p ≤ 34) → p ≠ 149 → ¬ (p = 115 ∧ i = 46) → m2.1 p i = m.1 p i := fun p i h1 h2 h3 h4 => by rw [c4 p i (by omega), a4 p i (by omega)]
  have hp : ∀ p, p ≠ 0 → ¬ (20 ≤ p ∧ p ≤ 34) → p ≠ 149 → p ≠ 115 → m2.1 p = m.1 p := fun p h1 h2 h3 h4 => funext fun i => e p i (by omega) h2 h3 (by omega)
  refine ⟨1, m1, m2, a1, c1, Rsh_k h.1 (fun p t => hp p (by unfold Psh at t; omega) (by unfold Psh at t; omega) (by unfold Psh at t; omega) (by unfold Psh at t; omega)), Rtp_k h.2.1 (e 1 1 (by omega) (by omega) (by omega) (by omega)) (e 1 2 (by omega) (by omega) (by omega) (by omega)) (hp 2 (by omega) (by omega) (by omega) (by omega)) (e 115 2 (by omega) (by omega) (by omega) (by omega)) (hp 117 (by omega) (by omega) (by omega) (by omega)), Sta_k b1 b2 b3 b4 (fun p i t => e p i (by unfold FS at t; omega) (by unfold FS at t; omega) (by unfold FS at t; omega) (by unfold FS at t; omega)) (by rw [c5, a5]), Or.inr ⟨?_, c3, S, b1, c2, ?_⟩⟩
  · rw [c4 0 7 (by omega)]; exact a3
  · exact cSt_k a2 fun q h1 h2 => funext fun i => c4 q i (by omega)
theorem G_restore : PS_restore Rl := by
  intro n hn m h
  unfold pN at hn
  rcases h.2.2.2 with ⟨a, b⟩ | ⟨a, b, S, b1, b2, b3⟩
  · exact ⟨-4, m, m, by rw [lt_restore, if_pos a], by rw [mo_restore, if_pos b], h⟩
  · obtain ⟨m1, a1, a2, a3, a4, a5⟩ := C_restore S (VS S) m n b1 b3 a
    obtain ⟨m2, c1, c2, c4, c5⟩ := M_restore S m1 n (by omega) (by rw [show m1.1 149 = m.1 149 from funext fun i => a4 149 i (by omega)]; exact b2) (by rw [a4 115 46 (by omega)]; exact b)
    obtain ⟨r1, r2, r3⟩ := RTI (m2 := m2) h fun p i t => by
      rw [c4 p i (by unfold FI Psh at t; omega), a4 p i (by unfold FI Psh at t; omega)]
    exact ⟨1, m1, m2, a1, c1, r1, r2, ⟨S, b1, c2, cSt_k a2 fun q h1 h2 => funext fun i => c4 q i (by omega), CH_0 (by rw [c4 0 8 (by omega)]; exact a3)⟩, r3⟩
theorem Rl_sh {m m2 : rn_Mem} (h : Rl m) (h1 : Rsh m2) (hk : Kp Psh m m2) : Rl m2 := by
  obtain ⟨S, b1, b2, b3, b4⟩ := h.2.2.1
  refine ⟨h1, Rtp_k h.2.1 (by rw [hk.1 1 (by unfold Psh; omega)]) (by rw [hk.1 1 (by unfold Psh; omega)]) (hk.1 2 (by unfold Psh; omega)) (by rw [hk.1 115 (by unfold Psh; omega)]) (hk.1 117 (by unfold Psh; omega)), Sta_k b1 b2 b3 b4 (fun p i t => by rw [hk.1 p (by unfold FS at t; unfold Psh; omega)]) (by rw [hk.2]), Im_k h.2.2.2 (by rw [hk.1 0 (by unfold Psh; omega)]) (by rw [hk.1 115 (by unfold Psh; omega)]) (hk.1 149 (by unfold Psh; omega)) (fun p h1 h2 => hk.1 p (by unfold Psh; omega))⟩
theorem G_sheet : PS_sheet Rl := by
  intro n hn a b c m h
  obtain ⟨r, m1, m2, a1, a2, a3, a4⟩ := L_sheet hn a b c m h.1
  exact ⟨r, m1, m2, a1, a2, Rl_sh h a3 a4⟩
theorem G_drop : PS_drop Rl := by
  intro n hn a m h
  obtain ⟨r, m1, m2, a1, a2, a3, a4⟩ := L_drop hn a m h.1
  exact ⟨r, m1, m2, a1, a2, Rl_sh h a3 a4⟩
theorem G_item : PS_item Rl := by
  intro n hn a b c v m h
  obtain ⟨r, m1, m2, a1, a2, a3, a4⟩ := L_item hn a b c v m h.1
  exact ⟨r, m1, m2, a1, a2, Rl_sh h a3 a4⟩
theorem G_calls : PS_all Rl := ⟨G_type, G_game, G_table, G_told, G_set, G_heap, G_wins, G_clue, G_forget, G_plays, G_may, G_sure, G_under, G_trick, G_first, G_fewest, G_drops, G_turned, G_others, G_row, G_leaves, G_who, G_best, G_falls, G_knows, G_count, G_image, G_restore, G_sheet, G_drop, G_item⟩
