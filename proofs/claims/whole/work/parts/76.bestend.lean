/-! BEST, FALLS: both sides -/
def Sf (S : Nat → Nat) : Nat → Nat := fun i => S (89 + i)
def VS (S : Nat → Nat) (i : Nat) : Nat := Wv (S 1) (S 5) (S 4) (S 6) (S 88) (S 1 * S 2 - i) i (Sf S) (fun c => hdm (Sp S) (Sf S) c (S 1 * S 2 - i) i)
def Pbs (p : Nat) : Prop := Ptr p ∨ Pbf p
theorem bestFrom_l6_sp {S : Nat → Nat} {P : Nat} (hw : WF S) (h11 : S 11 = 1) (hP : P ≤ S 1 * S 2) : ∀ (r k nf : Nat) (m : rn_Mem), k + r = S 1 → r + 30 < nf → zOK S (m.1 116) → RT S m → (∀ c, c < k → m.1 143 c = nI (hdm (Sp S) (Sf S) c (S 1 * S 2 - P) P)) → ∃ m2, mo_bestFrom_l6 (nI P) nf (nI k) m = some m2 ∧ (∀ c, c < S 1 → m2.1 143 c = nI (hdm (Sp S) (Sf S) c (S 1 * S 2 - P) P)) ∧ Kr (fun p => p = 143) m m2 := by
  obtain ⟨h1, h2, h3, h4, h5, h6, h7, h8⟩ := WF_row hw h11
  intro r
  induction r with
  | zero =>
    intro k nf m e hnf hz hR hk
    obtain ⟨nf, rfl⟩ : ∃ e, nf = e + 1 := ⟨nf - 1, by omega⟩
    obtain rfl : k = S 1 := by omega
    refine ⟨m, ?_, hk, Kr.rf⟩
    unfold mo_bestFrom_l6
    rw [zOK_at hz (k := 1) (by omega) (by omega) (by omega) (by omega), if_neg (by rw [nI_ltI (by omega) (by omega)]; omega)]
  | succ r ih =>
    intro k nf m e hnf hz hR hk
    obtain ⟨nf, rfl⟩ : ∃ e, nf = e + 1 := ⟨nf - 1, by omega⟩
    have k116 : (rm_i m 143 k (nI (hdm (Sp S) (Sf S) k (S 1 * S 2 - P) P))).1 116 = m.1 116 := by
      funext j; rw [mi_get, if_neg (by omega)]
    obtain ⟨m2, a1, a2, a3⟩ := ih (k + 1) nf (rm_i m 143 k (nI (hdm (Sp S) (Sf S) k (S 1 * S 2 - P) P))) (by omega) (by omega) (by rw [k116]; exact hz) (by
      refine ⟨fun i hi => ?_, fun j hj => ?_, fun j hj => ?_⟩
      · rw [mi_get, if_neg (by omega)]; exact hR.1 i hi
      · rw [mi_get, if_neg (by omega)]; exact hR.2.1 j hj
      · rw [mi_get, if_neg (by omega)]; exact hR.2.2 j hj) (by
      intro c hc
      rw [mi_get]
      by_cases q : c = k
      · rw [if_pos ⟨rfl, q⟩, q]
      · rw [if_neg (fun z => q z.2)]; exact hk c (by omega))
    refine ⟨m2, ?_, a2, Kr.tr (Kr.sti (P := fun p => p = 143) Kr.rf rfl) a3⟩
    have hh := handAt_sp (q := 141) (n := S 1) (t := S 2) (tr := S 4) (ls := S 6) (b := S 88) (c := k) (i := P) (nf := nf) (f := Sf S) (m := m) (by omega) h1 h2 h4 h5 h7 (by omega) (by rw [al141]; exact h5) hP (zOK_at hz (by omega) (by omega) (by omega) (by omega)) (zOK_at hz (by omega) (by omega) (by omega) (by omega)) (fun j hj => hR.2.1 j (by omega)) h8 hR.1
    unfold mo_bestFrom_l6
    rw [zOK_at hz (k := 1) (by omega) (by omega) (by omega) (by omega), if_pos (by rw [nI_ltI (by omega) (by omega)]; omega), hh]
    simp only [Option.bind_some]
    rw [if_pos ((in_n (by omega)).mpr (by omega)), nI_n (by omega)]
    rw [nI_1]
    exact a1
theorem bestFrom_l40_sp {S : Nat → Nat} {P : Nat} (hP : P ≤ S 1 * S 2) (hs : S 1 * S 2 ≤ 12) : ∀ (r k nf : Nat) (m : rn_Mem), k + r = P → r < nf → (∀ i, i < S 1 * S 2 → m.1 141 i = nI (Sf S i)) → (∀ j, j < k → m.1 142 j = nI (Sf S j)) → ∃ m2, mo_bestFrom_l40 (nI P) nf (nI k) m = some m2 ∧ (∀ j, j < P → m2.1 142 j = nI (Sf S j)) ∧ Kr (fun p => p = 142) m m2 := by
  intro r
  induction r with
  | zero =>
    intro k nf m e hnf hR hk
    obtain ⟨nf, rfl⟩ : ∃ e, nf = e + 1 := ⟨nf - 1, by omega⟩
    obtain rfl : k = P := by omega
    refine ⟨m, ?_, hk, Kr.rf⟩
    unfold mo_bestFrom_l40
    rw [if_neg (by rw [nI_ltI (by omega) (by omega)]; omega)]
  | succ r ih =>
    intro k nf m e hnf hR hk
    obtain ⟨nf, rfl⟩ : ∃ e, nf = e + 1 := ⟨nf - 1, by omega⟩
    obtain ⟨m2, a1, a2, a3⟩ := ih (k + 1) nf (rm_i m 142 k (m.1 141 k)) (by omega) (by omega) (by
      intro i hi
      rw [mi_get, if_neg (by omega)]; exact hR i hi) (by
      intro c hc
      rw [mi_get]
      by_cases q : c = k
      · rw [if_pos ⟨rfl, q⟩, q]; exact hR k (by omega)
      · rw [if_neg (fun z => q z.2)]; exact hk c (by omega))
    refine ⟨m2, ?_, a2, Kr.tr (Kr.sti (P := fun p => p = 142) Kr.rf rfl) a3⟩
    unfold mo_bestFrom_l40
    rw [if_pos (by rw [nI_ltI (by omega) (by omega)]; omega), if_pos ((in_n (by omega)).mpr (by omega)), nI_n (by omega)]
    simp only [Option.bind_some]
    rw [if_pos ((in_n (by omega)).mpr (by omega)), nI_1]
    exact a1
theorem bestFrom_sp {S : Nat → Nat} {P nf : Nat} {m : rn_Mem} (hnf : 900000 < nf) (hw : WF S) (h11 : S 11 = 1) (hP : P ≤ S 1 * S 2) (hz : zOK S (m.1 116)) : ∃ m2, mo_bestFrom nf (nI P) m = some (nI (VS S P), m2) ∧ Kr Pbs m m2 := by
  obtain ⟨h1, h2, h3, h4, h5, h6, h7, h8⟩ := WF_row hw h11
  obtain ⟨wg, wt, wc, wr⟩ := WF_1 hw (S11_1 hw h11)
  have hfo : S 5 ≤ 2 := wg.2.2.2.2.2.2.2.1
  have hinj := (wr.2 h11).2.2
  obtain ⟨m1, a1, a2, a3⟩ := takeRow_sp (nf := nf) (by omega) hw h11 hz
  have z1 : m1.1 116 = m.1 116 := (a3 116 (by unfold Ptr; omega)).1
  obtain ⟨m2, b1, b2, b3⟩ := bestFrom_l6_sp hw h11 hP (S 1) 0 nf m1 (by omega) (by omega) (by rw [z1]; exact hz) a2 (by intro c hc; omega)
  have z2 : m2.1 116 = m.1 116 := by rw [(b3 116 (by omega)).1, z1]
  obtain ⟨m3, c1, c2, c3⟩ := bestFrom_l40_sp (S := S) hP h5 P 0 nf m2 (by omega) (by omega) (by
    rw [(b3 141 (by omega)).1]; exact a2.1) (by intro c hc; omega)
  have z3 : m3.1 116 = m.1 116 := by rw [(c3 116 (by omega)).1, z2]
  have k3 : Kr Pbs m m3 := ((a3.mono fun p hp => Or.inl hp).tr (b3.mono fun p hp => Or.inr (by unfold Pbf; omega))).tr (c3.mono fun p hp => Or.inr (by unfold Pbf; omega))
  have hrun : mo_bestFrom nf (nI P) m = if nI P = nI (S 1 * S 2) then some (0, m3) else (mo_comeTo nf (nI P) m3).bind fun m25 => (mo_bestFrom_l80 (nI P) nf (nI P) m25).bind fun o => some o := by
    unfold mo_bestFrom
    rw [a1]
    simp only [Option.bind_some]
    rw [k0, b1]
    simp only [Option.bind_some]
    rw [c1]
    unfold mo_size
    simp only [Option.bind_some]
    rw [z3, zOK_at hz (k := 1) (by omega) (by omega) (by omega) (by omega), zOK_at hz (k := 2) (by omega) (by omega) (by omega) (by omega), pk_mul]
  by_cases q : P = S 1 * S 2
  · refine ⟨m3, ?_, k3⟩
    rw [hrun, if_pos (by rw [q])]
    unfold VS
    rw [show S 1 * S 2 - P = 0 by omega]
    rfl
  rw [if_neg (by rw [nI_eq (by omega) (by omega)]; exact q)] at hrun
  have hfl : ∀ c, c < S 1 → hdm (Sp S) (Sf S) c (S 1 * S 2 - P) P < 65536 := fun c hc => hdm_lt (fun j hj hj2 => h8 j (by omega))
  have hiv : iv (S 1) (S 2) (S 4) (S 6) (S 88) (Sf S) (fun c => hdm (Sp S) (Sf S) c (S 1 * S 2 - P) P) P := iv_row h1 h7 h8 hinj (S 1 * S 2 - P) P (by omega)
  have hZ : Zm (S 1) (S 2) (S 5) (S 4) (S 6) (S 88) m3 := by
    unfold Zm
    rw [z3]
    exact ⟨zOK_at hz (by omega) (by omega) (by omega) (by omega), zOK_at hz (by omega) (by omega) (by omega) (by omega), hz.2.1, zOK_at hz (by omega) (by omega) (by omega) (by omega), zOK_at hz (by omega) (by omega) (by omega) (by omega), zOK_at hz (by omega) (by omega) (by omega) (by omega)⟩
  obtain ⟨m4, d1, d2, d3, d4, d5⟩ := comeTo_sp (nf := nf) (i := P) (f := Sf S) (H := fun c => hdm (Sp S) (Sf S) c (S 1 * S 2 - P) P) (m := m3) (by omega) h1 h2 h4 h5 h7 h6 hfo (by omega) hZ (fun j hj => ⟨c2 j hj, h8 j (by omega)⟩) (fun c hc => ⟨by rw [(c3 143 (by omega)).1]; exact b2 c hc, hfl c hc⟩) hiv
  have hp := rpa_lt (tr := S 4) (ls := S 6) (b := S 88) (k := P) (f := Sf S) (show 0 < S 1 by omega)
  have hmv := iv_mover h1 h7 hiv
  have hk2 := nxk (n := S 1) (t := S 2) (i := P) h1 (by omega)
  have hHp := hfl _ hp
  have hne := lwm_ne (fo := S 5) (tr := S 4) (s := sl (S 1) (Sf S) P) hHp (by omega)
  have hlw := lwm_lt (fo := S 5) (tr := S 4) (s := sl (S 1) (Sf S) P) hHp
  have hsub : ∀ y, y < 16 → (lwm (S 5) (S 4) (sl (S 1) (Sf S) P) (hdm (Sp S) (Sf S) (rpa (S 1) (S 4) (S 6) (S 88) (Sf S) P) (S 1 * S 2 - P) P)).testBit y = true → (hdm (Sp S) (Sf S) (rpa (S 1) (S 4) (S 6) (S 88) (Sf S) P) (S 1 * S 2 - P) P).testBit y = true := by
    intro y hy hz
    rw [lwm_bit hy, Bool.and_eq_true] at hz
    exact hz.1
  have hcle := cnt_le hsub
  have hcp : 0 < cnt (lwm (S 5) (S 4) (sl (S 1) (Sf S) P) (hdm (Sp S) (Sf S) (rpa (S 1) (S 4) (S 6) (S 88) (Sf S) P) (S 1 * S 2 - P) P)) := fb_ct_pos.mpr hne
  have hBB := BB_le (S 1) (by omega) (S 2) (by omega) h5 P (by omega) h1
  obtain ⟨r, hr⟩ : ∃ r, S 1 * S 2 - P = r + 1 := ⟨S 1 * S 2 - P - 1, by omega⟩
  have hBB2 : BB (S 1) (S 2) (r + 1) P = (S 2 - P / S 1) * (BB (S 1) (S 2) r (P + 1) + 2) := rfl
  have hcost : cnt (lwm (S 5) (S 4) (sl (S 1) (Sf S) P) (hdm (Sp S) (Sf S) (rpa (S 1) (S 4) (S 6) (S 88) (Sf S) P) (S 1 * S 2 - P) P)) * (BB (S 1) (S 2) r (P + 1) + 2) ≤ 400000 := by
    refine Nat.le_trans (Nat.mul_le_mul_right (k := BB (S 1) (S 2) r (P + 1) + 2) (m := S 2 - P / S 1) (by omega)) ?_
    rw [← hBB2, ← hr]
    exact hBB
  obtain ⟨v, nf2, m5, e1, e2, e3, e4, e5, e6, e7, e8, e9⟩ := l80_sp (P := P) h1 h2 h4 h5 h7 h6 hfo r P (by omega) (by omega) _ _ (Sf S) (fun c => hdm (Sp S) (Sf S) c (S 1 * S 2 - P) P) none m4 nf rfl d2 hlw hsub (fun v hv => by cases hv) (Or.inr hcp) (by omega)
  have e1 := (gv_opf (fo := S 5) (tr := S 4) (ls := S 6) (b := S 88) (a := P / S 1) (r := r) (i := P) (f := Sf S) (H := fun c => hdm (Sp S) (Sf S) c (S 1 * S 2 - P) P) h1 (Nat.le_refl _) hne).symm.trans e1
  have hw0 : ws (S 1) (S 4) (S 6) (S 88) (P / S 1) P (Sf S) = 0 := by
    unfold ws
    refine fb_ct_zero.mpr fun k hk => ?_
    rw [decide_eq_false (show ¬ P / S 1 ≤ k by omega)]
    rfl
  have hv : v = VS S P := by
    injection e1 with e1
    rw [← e1, hw0, Nat.zero_add]
    unfold VS
    rw [hr]
  refine ⟨m5, ?_, k3.tr ((d5.tr e9).mono fun p hp => Or.inr hp)⟩
  rw [hrun, d1]
  simp only [Option.bind_some]
  rw [e4, if_pos rfl, hv]
  rfl
theorem VS_le (S : Nat → Nat) (i : Nat) : VS S i ≤ S 1 * S 2 - i := Wv_le
def Prf (p : Nat) : Prop := p = 103 ∨ p = 18
theorem reachFrom_sp {S : Nat → Nat} {P nf : Nat} {m : rn_Mem} (hnf : 100 < nf) (hw : WF S) (h11 : S 11 = 1) (hP : P ≤ S 1 * S 2) (hc : cSt S (VS S) 3 m) : ∃ m2, ju_reachFrom nf 4 14 (nI P) m = some (nI (VS S P), m2) ∧ cSt S (VS S) 3 m2 ∧ Kr Prf m m2 := by
  obtain ⟨h1, h2, h3, h4, h5, h6, h7, h8⟩ := WF_row hw h11
  have h0 := S11_1 hw h11
  obtain ⟨wg, wt, wc, wr⟩ := WF_1 hw h0
  have hfo : S 5 ≤ 2 := wg.2.2.2.2.2.2.2.1
  have hinj := (wr.2 h11).2.2
  obtain ⟨⟨g0, g1⟩, ct, cl, ⟨c40, c41⟩⟩ := hc
  have hc : cSt S (VS S) 3 m := ⟨⟨g0, g1⟩, ct, cl, ⟨c40, c41⟩⟩
  obtain ⟨e1, e2, e3, e4, e5, e6, e7, e8⟩ := g1 h0
  obtain ⟨f1, f2, f3⟩ := c41 h11
  have hVle := VS_le S P
  unfold ju_reachFrom ga_cards
  simp only [Option.bind_some]
  rw [show m.1 4 1 = _ from e1, show m.1 4 2 = _ from e2, pk_mul]
  by_cases q : P < S 1 * S 2
  case neg =>
    refine ⟨m, ?_, hc, Kr.rf⟩
    rw [if_neg (by rw [nI_ltI (by omega) (by omega)]; exact q), show VS S P = 0 by omega]
    rfl
  have h13 : rn_in (nI P) 13 = true := (in_n (by omega)).mpr (by omega)
  have h12 : rn_in (nI P) 12 = true := (in_n (by omega)).mpr (by omega)
  rw [if_pos (by rw [nI_ltI (by omega) (by omega)]; exact q), if_pos h13, nI_n (by omega)]
  rcases f3 P q with r1 | r1
  case inr =>
    refine ⟨m, ?_, hc, Kr.rf⟩
    rw [if_neg (by rw [show m.1 (14 + 4) P = nI (VS S P) from r1, k0, nI_ltI (by omega) (by omega)]; omega)]
    simp only [Option.bind_some]
    rw [if_pos h13, show m.1 (14 + 4) P = nI (VS S P) from r1]
  obtain ⟨m7, a1, a2, a3⟩ := deal_sp (q1 := 4) (q2 := 14) (n := S 1) (t := S 2) (i := P) (nf := nf) (p := Sp S) (f := Sf S) (m := m) (by omega) h5 hP (by omega) (fun i hi => by have := Sp_lt (S := S) (i := i) h1; omega) h8 e1 e2 (fun i hi => ⟨(f2 i hi).1, (f2 i hi).2.1⟩)
  have ko : ∀ q, q ≠ 103 → m7.1 q = m.1 q := fun q hq => (a3 q hq).1
  have hso := soFar_sp (q0 := 4) (q1 := 14) (n := S 1) (tr := S 4) (P := P) (nf := nf) (p := Sp S) (f := Sf S) (L := Sl S) (m := m7) (by omega) h1 h2 (by omega) (by rw [ko 4 (by omega)]; exact e1) (by rw [ko 4 (by omega)]; exact e4) (fun i hi => rfl) (fun i hi => h8 i (by omega)) (fun i hi => by
    rw [ko (14 + 1) (by omega), ko (14 + 2) (by omega)]
    exact ⟨(f2 i (by omega)).1, (f2 i (by omega)).2.1⟩)
  have hiv : iv (S 1) (S 2) (S 4) (S 6) (S 88) (Sf S) (fun c => hdm (Sp S) (Sf S) c (S 1 * S 2 - P) P) P := iv_row h1 h7 h8 hinj (S 1 * S 2 - P) P (by omega)
  obtain ⟨v, v1, v2, v3, v4, v5⟩ := reach_sp (nf := nf) (n := S 1) (t := S 2) (fo := S 5) (tr := S 4) (ls := S 6) (b := S 88) (by omega) h1 h2 h5 h7 h6 hfo (S 1 * S 2 - P) 16 (by omega) P (Sf S) (fun c => hdm (Sp S) (Sf S) c (S 1 * S 2 - P) P) m7 (-1) 99 (by omega) (by
    unfold Gm
    rw [ko 4 (by omega)]
    exact ⟨e1, e2, e4, e5, e6⟩) (fun c hc => ⟨a2 c (by omega), hdm_lt (fun j hj hj2 => h8 j (by omega))⟩) (fun j hj => h8 j (by omega)) hiv (by decide) (by rw [tm1]; omega) (by decide)
  have hv : v = nI (VS S P) := by
    have t99 : (99 : Int32).toInt = 99 := by decide
    rw [t99] at v2
    rw [tm1] at v3
    have v2' : v.toInt < 99 → (VS S P : Int) ≤ v.toInt := v2
    have v3' : -1 < v.toInt → v.toInt ≤ (VS S P : Int) := v3
    rw [i_eq, nI_int (by omega)]
    omega
  refine ⟨rm_i m7 18 P (nI (VS S P)), ?_, ?_, ?_⟩
  · rw [if_pos (by rw [show m.1 (14 + 4) P = mI 1 from r1]; decide), a1]
    simp only [Option.bind_some]
    rw [if_pos h12, hso]
    simp only [Option.bind_some]
    rw [show m7.1 (14 + 2) P = nI (Sp S P) by rw [ko (14 + 2) (by omega)]; exact (f2 P q).2.1]
    rw [show ju_reach nf 16 4 (nI P) (nI (Sp S P)) (jo (S 1) (S 4) (Sl S (P / S 1)) (fun j => Sf S (S 1 * (P / S 1) + j)) (P % S 1)) (-1) 99 m7 = some (v, m7) from v1, hv]
    simp only [Option.bind_some]
    rw [if_pos h13]
    simp only [Option.bind_some]
    rw [if_pos h13, mi_get, if_pos ⟨rfl, rfl⟩]
  · have k18 : ∀ r, r ≠ 103 → r ≠ 18 → (rm_i m7 18 P (nI (VS S P))).1 r = m.1 r := by
      intro r hr hr2
      funext j
      rw [mi_get, if_neg (fun z => hr2 z.1), ko r hr]
    unfold cSt
    rw [k18 (3 + 1) (by omega) (by omega), k18 (3 + 2) (by omega) (by omega), k18 (3 + 3) (by omega) (by omega), k18 (3 + 4) (by omega) (by omega), k18 (3 + 5) (by omega) (by omega), k18 (3 + 6) (by omega) (by omega), k18 (3 + 7) (by omega) (by omega), k18 (3 + 8) (by omega) (by omega), k18 (3 + 9) (by omega) (by omega), k18 (3 + 10) (by omega) (by omega), k18 (3 + 11) (by omega) (by omega), k18 (3 + 12) (by omega) (by omega), k18 (3 + 13) (by omega) (by omega), k18 (3 + 14) (by omega) (by omega)]
    refine ⟨⟨g0, g1⟩, ct, cl, c40, fun _ => ⟨f1, f2, fun i hi => ?_⟩⟩
    rw [mi_get]
    by_cases z : i = P
    · rw [if_pos ⟨rfl, z⟩, z]; exact Or.inr rfl
    · rw [if_neg (fun y => z y.2), ko (3 + 15) (by omega)]; exact f3 i hi
  · exact (a3.mono fun p hp => Or.inl hp).sti (Or.inr rfl)
theorem C_best (S : Nat → Nat) (m : rn_Mem) (hw : WF S) (hc : cSt S (VS S) 3 m) (a : Int32) (n : Nat) (hn : 900000 < n) : ∃ r m1, lt_best n a m = some (r, m1) ∧ cSt S (VS S) 3 m1 ∧ Kr Prf m m1 ∧ ∀ m', zOK S (m'.1 116) → ∃ m2, mo_best n a m' = some (r, m2) ∧ Kr Pbs m' m2 := by
  have c40 : m.1 14 0 = nI (S 11) := hc.2.2.2.1
  by_cases ha : 0 ≤ a.toInt ∧ a.toInt ≤ 12
  case neg =>
    refine ⟨-1, m, ?_, hc, Kr.rf, fun m' hz => ⟨m', ?_, Kr.rf⟩⟩
    · unfold lt_best
      simp only [i_lt, t0, t12]
      by_cases q1 : a.toInt < 0
      · rw [if_pos q1]
      · rw [if_neg q1, if_pos (by omega)]
    · unfold mo_best
      rw [mo_in_i n a 0 12 0 12 m' (by decide) (by decide)]
      simp only [Option.bind_some]
      rw [if_pos (b00 ha)]
  obtain ⟨P, hP, rfl⟩ := i_nat (x := a) (k := 13) ha.1 (by omega)
  have hL : lt_best n (nI P) m = if m.1 14 0 = 0 then some (-2, m) else if (m.1 4 1) * (m.1 4 2) < nI P then some (-1, m) else (ju_reachFrom n 4 14 (nI P) m).bind fun (r9, m8) => some (r9, m8) := by
    unfold lt_best ga_cards
    simp only [i_lt, t0, t12]
    rw [if_neg (by omega), if_neg (by omega)]
    simp only [Option.bind_some]
  have hM : ∀ m', mo_best n (nI P) m' = if m'.1 116 11 = 0 then some (-2, m') else if (m'.1 116 1) * (m'.1 116 2) < nI P then some (-1, m') else (mo_bestFrom n (nI P) m').bind fun (r11, m10) => some (r11, m10) := by
    intro m'
    unfold mo_best mo_size
    rw [mo_in_i n _ 0 12 0 12 m' (by decide) (by decide), if_pos ha]
    simp only [Option.bind_some]
    rw [if_neg (by decide)]
  rcases S11_01 hw with h11 | h11
  · refine ⟨-2, m, ?_, hc, Kr.rf, fun m' hz => ⟨m', ?_, Kr.rf⟩⟩
    · rw [hL, if_pos (by rw [c40, h11]; rfl)]
    · rw [hM, if_pos (by rw [zOK_at hz (by omega) (by omega) (by omega) (by omega), h11]; rfl)]
  obtain ⟨h1, h2, h3, h4, h5, h6, h7, h8⟩ := WF_row hw h11
  obtain ⟨e1, e2, e3, e4, e5, e6, e7, e8⟩ := hc.1.2 (S11_1 hw h11)
  rw [if_neg (by rw [c40, h11]; decide), show m.1 4 1 = _ from e1, show m.1 4 2 = _ from e2, pk_mul] at hL
  have hM2 : ∀ m', zOK S (m'.1 116) → mo_best n (nI P) m' = if nI (S 1 * S 2) < nI P then some (-1, m') else (mo_bestFrom n (nI P) m').bind fun (r11, m10) => some (r11, m10) := by
    intro m' hz
    rw [hM, if_neg (by rw [zOK_at hz (by omega) (by omega) (by omega) (by omega), h11]; decide), zOK_at hz (k := 1) (by omega) (by omega) (by omega) (by omega), zOK_at hz (k := 2) (by omega) (by omega) (by omega) (by omega), pk_mul]
  by_cases hs : S 1 * S 2 < P
  · have hs' := (nI_ltI (show S 1 * S 2 < 2 ^ 31 by omega) (show P < 2 ^ 31 by omega)).mpr hs
    exact ⟨-1, m, by rw [hL, if_pos hs'], hc, Kr.rf, fun m' hz => ⟨m', by rw [hM2 m' hz, if_pos hs'], Kr.rf⟩⟩
  have hs' := mt (nI_ltI (show S 1 * S 2 < 2 ^ 31 by omega) (show P < 2 ^ 31 by omega)).mp hs
  obtain ⟨m1, a1, a2, a3⟩ := reachFrom_sp (P := P) (nf := n) (by omega) hw h11 (by omega) hc
  refine ⟨_, m1, by rw [hL, if_neg hs', a1]; rfl, a2, a3, fun m' hz => ?_⟩
  obtain ⟨m2, b1, b2⟩ := bestFrom_sp (P := P) hn hw h11 (by omega) hz
  exact ⟨m2, by rw [hM2 m' hz, if_neg hs', b1]; rfl, b2⟩
theorem worthAt_l15_sp {S : Nat → Nat} {P : Nat} {m : rn_Mem} {a2 : Int32} (hw : WF S) (h11 : S 11 = 1) (hP : P ≤ S 1 * S 2) (hz : zOK S (m.1 116)) (hR : RT S m) : ∀ (r k nf : Nat), k + r = S 2 → r < nf → mo_worthAt_l15 (nI P) a2 nf (nI (fb_ct (fun k => decide (S 1 * k + S 1 ≤ P) && decide (Sw S k % 2 = 0)) k)) (nI k) m = some (nI (wa S P), m) := by
  obtain ⟨h1, h2, h3, h4, h5, h6, h7, h8⟩ := WF_row hw h11
  have stop : ∀ (r k nf : Nat), k + r = S 2 → P < (k + 1) * S 1 → 0 < nf → mo_worthAt_l15 (nI P) a2 nf (nI (fb_ct (fun k => decide (S 1 * k + S 1 ≤ P) && decide (Sw S k % 2 = 0)) k)) (nI k) m = some (nI (wa S P), m) := by
    intro r k nf e hlt hnf
    obtain ⟨nf, rfl⟩ : ∃ e, nf = e + 1 := ⟨nf - 1, by omega⟩
    have hb : (k + 1) * S 1 ≤ 5 * 4 := Nat.mul_le_mul (by omega) (by omega)
    unfold mo_worthAt_l15
    rw [zOK_at hz (k := 1) (by omega) (by omega) (by omega) (by omega), nI_1, pk_mul, if_pos (by rw [nI_ltI (by omega) (by omega)]; exact hlt)]
    unfold wa
    rw [← e, fb_ct_split]
    have : fb_ct (fun j => (fun k => decide (S 1 * k + S 1 ≤ P) && decide (Sw S k % 2 = 0)) (k + j)) r = 0 := by
      refine fb_ct_zero.mpr fun j hj => ?_
      have hle : (k + 1) * S 1 ≤ (k + j + 1) * S 1 := Nat.mul_le_mul_right _ (by omega)
      have e2 : (k + j + 1) * S 1 = S 1 * (k + j) + S 1 := by rw [Nat.add_mul, Nat.one_mul, Nat.mul_comm]
      show (decide (S 1 * (k + j) + S 1 ≤ P) && decide (Sw S (k + j) % 2 = 0)) = false
      rw [decide_eq_false (by omega)]
      rfl
    rw [this, Nat.add_zero]
  intro r
  induction r with
  | zero =>
    intro k nf e hnf
    refine stop 0 k nf e ?_ (by omega)
    have e2 : (k + 1) * S 1 = S 1 * k + S 1 := by rw [Nat.add_mul, Nat.one_mul, Nat.mul_comm]
    rw [e2, show k = S 2 by omega]
    omega
  | succ r ih =>
    intro k nf e hnf
    by_cases q : P < (k + 1) * S 1
    · exact stop (r + 1) k nf e q (by omega)
    obtain ⟨nf, rfl⟩ : ∃ e, nf = e + 1 := ⟨nf - 1, by omega⟩
    have hb : (k + 1) * S 1 ≤ 5 * 4 := Nat.mul_le_mul (by omega) (by omega)
    have e2 : (k + 1) * S 1 = S 1 * k + S 1 := by rw [Nat.add_mul, Nat.one_mul, Nat.mul_comm]
    have h := ih (k + 1) nf (by omega) (by omega)
    have hwk := Sw_lt (S := S) (k := k) h1
    rw [fb_ct_succ] at h
    unfold mo_worthAt_l15
    rw [zOK_at hz (k := 1) (by omega) (by omega) (by omega) (by omega), nI_1, pk_mul, if_neg (by rw [nI_ltI (by omega) (by omega)]; exact q), if_pos ((in_n (by omega)).mpr (by omega)), nI_n (by omega), hR.2.2 k (by omega), k2, rem_n (by omega) (by omega) (by omega)]
    by_cases g2 : Sw S k % 2 = 0
    · rw [if_pos (by rw [g2]; rfl)]
      rw [if_pos (by rw [decide_eq_true (show S 1 * k + S 1 ≤ P by omega), decide_eq_true g2]; rfl)] at h
      simp only [Option.bind_some, k0, k1, nI_add]
      exact h
    · rw [if_neg (nI_ne0 (by omega) (by omega))]
      rw [if_neg (by rw [decide_eq_false g2, Bool.and_false]; decide)] at h
      simp only [Option.bind_some, k0, k1, nI_add]
      exact h
theorem worthAt_sp {S : Nat → Nat} {P nf : Nat} {m : rn_Mem} (hnf : 900000 < nf) (hw : WF S) (h11 : S 11 = 1) (hP : P ≤ S 1 * S 2) (hz : zOK S (m.1 116)) : ∃ m2, mo_worthAt nf (nI P) m = some (nI (wa S P) + nI (VS S P), m2) ∧ Kr Pbs m m2 := by
  obtain ⟨h1, h2, h3, h4, h5, h6, h7, h8⟩ := WF_row hw h11
  obtain ⟨m1, a1, a2⟩ := bestFrom_sp (P := P) hnf hw h11 hP hz
  have z1 : m1.1 116 = m.1 116 := (a2 116 (by unfold Pbs Ptr Pbf; omega)).1
  obtain ⟨m2, b1, b2, b3⟩ := takeRow_sp (nf := nf) (m := m1) (by omega) hw h11 (by rw [z1]; exact hz)
  have z2 : m2.1 116 = m.1 116 := by rw [(b3 116 (by unfold Ptr; omega)).1, z1]
  have hl := worthAt_l15_sp (P := P) (m := m2) (a2 := nI (VS S P)) hw h11 hP (by rw [z2]; exact hz) b2 (S 2) 0 nf (by omega) (by omega)
  refine ⟨m2, ?_, a2.tr (b3.mono fun p hp => Or.inl hp)⟩
  unfold mo_worthAt
  rw [a1]
  simp only [Option.bind_some]
  rw [b1]
  simp only [Option.bind_some]
  rw [show mo_worthAt_l15 (nI P) (nI (VS S P)) nf 0 0 m2 = some (nI (wa S P), m2) from hl]
  rfl
theorem C_falls (S : Nat → Nat) (m : rn_Mem) (hw : WF S) (hc : cSt S (VS S) 3 m) (a : Int32) (n : Nat) (hn : 900000 < n) : ∃ r m1, lt_falls n a m = some (r, m1) ∧ cSt S (VS S) 3 m1 ∧ Kr Prf m m1 ∧ ∀ m', zOK S (m'.1 116) → ∃ m2, mo_falls n a m' = some (r, m2) ∧ Kr Pbs m' m2 := by
  have c40 : m.1 14 0 = nI (S 11) := hc.2.2.2.1
  by_cases ha : 0 ≤ a.toInt ∧ a.toInt ≤ 11
  case neg =>
    refine ⟨-1, m, ?_, hc, Kr.rf, fun m' hz => ⟨m', ?_, Kr.rf⟩⟩
    · unfold lt_falls
      simp only [i_lt, t0, t12]
      by_cases q1 : a.toInt < 0
      · rw [if_pos q1]
      · rw [if_neg q1, if_neg (by omega)]
    · unfold mo_falls
      rw [mo_in_i n a 0 11 0 11 m' (by decide) (by decide)]
      simp only [Option.bind_some]
      rw [if_pos (b00 ha)]
  obtain ⟨P, hP, rfl⟩ := i_nat (x := a) (k := 12) ha.1 (by omega)
  have hL : lt_falls n (nI P) m = if m.1 14 0 = 0 then some (-2, m) else if nI P < (m.1 4 1) * (m.1 4 2) then (ro_wonAhead n 14 4 (nI P) m).bind fun (r9, m8) => (ju_reachFrom n 4 14 (nI P) m8).bind fun (r12, m11) => (ro_wonAhead n 14 4 (nI P + 1) m11).bind fun (r16, m15) => (ju_reachFrom n 4 14 (nI P + 1) m15).bind fun (r19, m18) => if rn_in (nI P) 12 = true then if (rn_rem (m18.1 16 (nI P).toNatClampNeg) 2) = 0 then some ((r9 + r12) - (r16 + r19), m18) else some ((r16 + r19) - (r9 + r12), m18) else none else some (-1, m) := by
    unfold lt_falls ga_cards
    simp only [i_lt, t0, t12]
    rw [if_neg (by omega), if_pos (by omega)]
    simp only [Option.bind_some]
  have hM : ∀ m', mo_falls n (nI P) m' = if m'.1 116 11 = 0 then some (-2, m') else if nI P < (m'.1 116 1) * (m'.1 116 2) then (mo_worthAt n (nI P) m').bind fun (r11, m10) => (mo_worthAt n (nI P + 1) m10).bind fun (r14, m13) => (mo_takeRow n m13).bind fun m16 => (mo_playerAt n (nI P) m16).bind fun (r19, m18) => if (rn_rem r19 2) = 0 then some (r11 - r14, m18) else some (r14 - r11, m18) else some (-1, m') := by
    intro m'
    unfold mo_falls mo_size
    rw [mo_in_i n _ 0 11 0 11 m' (by decide) (by decide), if_pos ha]
    simp only [Option.bind_some]
    rw [if_neg (by decide)]
  rcases S11_01 hw with h11 | h11
  · refine ⟨-2, m, ?_, hc, Kr.rf, fun m' hz => ⟨m', ?_, Kr.rf⟩⟩
    · rw [hL, if_pos (by rw [c40, h11]; rfl)]
    · rw [hM, if_pos (by rw [zOK_at hz (by omega) (by omega) (by omega) (by omega), h11]; rfl)]
  obtain ⟨h1, h2, h3, h4, h5, h6, h7, h8⟩ := WF_row hw h11
  obtain ⟨e1, e2, e3, e4, e5, e6, e7, e8⟩ := hc.1.2 (S11_1 hw h11)
  rw [if_neg (by rw [c40, h11]; decide), show m.1 4 1 = _ from e1, show m.1 4 2 = _ from e2, pk_mul] at hL
  have hM2 : ∀ m', zOK S (m'.1 116) → mo_falls n (nI P) m' = if nI P < nI (S 1 * S 2) then (mo_worthAt n (nI P) m').bind fun (r11, m10) => (mo_worthAt n (nI P + 1) m10).bind fun (r14, m13) => (mo_takeRow n m13).bind fun m16 => (mo_playerAt n (nI P) m16).bind fun (r19, m18) => if (rn_rem r19 2) = 0 then some (r11 - r14, m18) else some (r14 - r11, m18) else some (-1, m') := by
    intro m' hz
    rw [hM, if_neg (by rw [zOK_at hz (by omega) (by omega) (by omega) (by omega), h11]; decide), zOK_at hz (k := 1) (by omega) (by omega) (by omega) (by omega), zOK_at hz (k := 2) (by omega) (by omega) (by omega) (by omega), pk_mul]
  by_cases hs : P < S 1 * S 2
  case neg =>
    have hs' := mt (nI_ltI (show P < 2 ^ 31 by omega) (show S 1 * S 2 < 2 ^ 31 by omega)).mp hs
    exact ⟨-1, m, by rw [hL, if_neg hs'], hc, Kr.rf, fun m' hz => ⟨m', by rw [hM2 m' hz, if_neg hs'], Kr.rf⟩⟩
  have hs' := (nI_ltI (show P < 2 ^ 31 by omega) (show S 1 * S 2 < 2 ^ 31 by omega)).mpr hs
  obtain ⟨m1, a1, a2, a3⟩ := reachFrom_sp (P := P) (nf := n) (by omega) hw h11 (by omega) hc
  obtain ⟨m2, b1, b2, b3⟩ := reachFrom_sp (P := P + 1) (nf := n) (by omega) hw h11 (by omega) a2
  have hpl : m2.1 16 P = nI (Sp S P) := ((b2.2.2.2.2 h11).2.1 P hs).2.1
  have hLr : lt_falls n (nI P) m = if (rn_rem (nI (Sp S P)) 2) = 0 then some ((nI (wa S P) + nI (VS S P)) - (nI (wa S (P + 1)) + nI (VS S (P + 1))), m2) else some ((nI (wa S (P + 1)) + nI (VS S (P + 1))) - (nI (wa S P) + nI (VS S P)), m2) := by
    rw [hL, if_pos hs', wonAhead_sp (by omega) hw hc h11 (by omega)]
    simp only [Option.bind_some]
    rw [a1]
    simp only [Option.bind_some]
    rw [nI_1, wonAhead_sp (by omega) hw a2 h11 (by omega)]
    simp only [Option.bind_some]
    rw [b1]
    simp only [Option.bind_some]
    rw [if_pos ((in_n (by omega)).mpr (by omega)), nI_n (by omega), hpl]
  have hMr : ∀ m', zOK S (m'.1 116) → ∃ m2', Kr Pbs m' m2' ∧ mo_falls n (nI P) m' = if (rn_rem (nI (Sp S P)) 2) = 0 then some ((nI (wa S P) + nI (VS S P)) - (nI (wa S (P + 1)) + nI (VS S (P + 1))), m2') else some ((nI (wa S (P + 1)) + nI (VS S (P + 1))) - (nI (wa S P) + nI (VS S P)), m2') := by
    intro m' hz
    obtain ⟨w1, c1, c2⟩ := worthAt_sp (P := P) hn hw h11 (by omega) hz
    have z1 : w1.1 116 = m'.1 116 := (c2 116 (by unfold Pbs Ptr Pbf; omega)).1
    obtain ⟨w2, d1, d2⟩ := worthAt_sp (P := P + 1) (m := w1) hn hw h11 (by omega) (by rw [z1]; exact hz)
    have z2 : w2.1 116 = m'.1 116 := by rw [(d2 116 (by unfold Pbs Ptr Pbf; omega)).1, z1]
    obtain ⟨w3, f1, f2, f3⟩ := takeRow_sp (nf := n) (m := w2) (by omega) hw h11 (by rw [z2]; exact hz)
    have z3 : w3.1 116 = m'.1 116 := by rw [(f3 116 (by unfold Ptr; omega)).1, z2]
    have hk : P / S 1 < S 2 := nxk h1 hs
    refine ⟨w3, c2.tr (d2.tr (f3.mono fun p hp => Or.inl hp)), ?_⟩
    rw [hM2 m' hz, if_pos hs', c1]
    simp only [Option.bind_some]
    rw [nI_1, d1]
    simp only [Option.bind_some]
    rw [f1]
    simp only [Option.bind_some]
    rw [playerAt_sp (n := S 1) (tr := S 4) (ls := S 6) (b := S 88) (f := fun i => S (89 + i)) h1 h2 h7 (by omega) (by omega) (by rw [z3]; exact zOK_at hz (by omega) (by omega) (by omega) (by omega)) (f2.2.1 _ (by omega))]
    rfl
  by_cases q : rn_rem (nI (Sp S P)) 2 = 0
  · rw [if_pos q] at hLr
    refine ⟨_, m2, hLr, b2, a3.tr b3, fun m' hz => ?_⟩
    obtain ⟨m2', k1, k2⟩ := hMr m' hz
    rw [if_pos q] at k2
    exact ⟨m2', k2, k1⟩
  · rw [if_neg q] at hLr
    refine ⟨_, m2, hLr, b2, a3.tr b3, fun m' hz => ?_⟩
    obtain ⟨m2', k1, k2⟩ := hMr m' hz
    rw [if_neg q] at k2
    exact ⟨m2', k2, k1⟩
