/-! SEARCH: all tricks laid -/
theorem l8_body {V : Type} {S F0 : Nat → Nat} {Y : Nat → Nat → Nat} {Z : Nat → Nat → Nat → Nat} {aim : Nat} {Inv : rn_Mem → V → Prop} {add : V → (Nat → Nat) → (Nat → Nat) → V} (A : AI S F0 Y Z aim Inv add) (wg : WG S) (wc : WC S) (hY : YZ S F0 Y Z) {rec : Int32 → Int32 → Int32 → Int32 → Int32 → Int32 → rn_Mem → Option rn_Mem} {k need : Nat} {w av : Nat → Nat} (hk : k < S 2) (hneed : need < S 1 ∨ need = 4) (hVL : VL S F0 Y w av (k + 1)) (hwp : aim ≠ 2 → ∀ r, r < S 2 - (k + 1) → wrG S F0 Z w av r = 0) (hrec : k ≠ 0 → LY S F0 Y Z aim Inv add rec k) {c nf2 : Nat} {v : V} {m : rn_Mem} (hc : c < S 1) (hleft : 0 < lfk S w (k + 1) c) (hnf : 130 < nf2) (hW : WMs S F0 Y Z m) (hst : ST S F0 Y w av (k + 1) m) (hI : Inv m v) : ∃ mq, (if rn_in (nI c) 4 = true then if rn_in (nI c) 4 = true then (some (rm_i m 64 (nI c).toNatClampNeg ((m.1 64 (nI c).toNatClampNeg) - 1))).bind fun (m7 : rn_Mem) => if rn_in (nI c) 4 = true then if rn_in (nI c) 4 = true then (se_layTrick rec nf2 (nI k) ((m7.1 63 (nI c).toNatClampNeg) + (m7.1 64 (nI c).toNatClampNeg)) (cT need) (nI (suG S F0 Z w av (S 2 - (k + 1)))) (nI (nbG S F0 Z w av (S 2 - (k + 1)))) (nI (byG S F0 Z w av (S 2 - (k + 1)))) (nI (bkG S F0 Y Z w av (S 2 - (k + 1)))) m7).bind fun m11 => if rn_in (nI c) 4 = true then if rn_in (nI c) 4 = true then (some (rm_i m11 64 (nI c).toNatClampNeg ((m11.1 64 (nI c).toNatClampNeg) + 1))).bind fun (m14 : rn_Mem) => some (m14) else none else none else none else none else none else none) = some mq ∧ ST S F0 Y w av (k + 1) mq ∧ Inv mq (rfold (fun v a => if mlk S k (Z 1 (nnk S F0 (fu w k c) k) a) need (lfk S (fu w k c) k (Z 1 (nnk S F0 (fu w k c) k) a)) = true then FO S F0 Y Z add k v (nxn S (Z 1 (nnk S F0 (fu w k c) k) a)) (fu w k c) (fu av k a) else v) (Y 2 (nnk S F0 (fu w k c) k)) 0 v) ∧ Kl m mq ∧ WMs S F0 Y Z mq := by
  obtain ⟨w1, w2, w3, w4, w5, w6, w7, w8, w9, w10, w11, w12⟩ := wg
  have hin : rn_in (nI c) 4 = true := (in_n (by omega)).mpr (by omega)
  simp only [if_pos hin, Option.bind_some, nI_n (show c < 2 ^ 31 by omega)]
  have hlle := lfk_le (S := S) (w := w) (k := k + 1) (c := c)
  have hYc := hY.1 c hc
  have hnn : nnk S F0 (fu w k c) k < S 2 := by
    rw [nnk_f]; omega
  have hnn2 := nnk_f (S := S) (F0 := F0) (w := w) (k := k) (c := c)
  have e64 : m.1 64 c - 1 = nI (lfk S w (k + 1) c - 1) := by rw [hst.1 c hc]; exact pk_sub (b := 1) (by omega)
  rw [e64]
  generalize hm7 : rm_i m 64 c (nI (lfk S w (k + 1) c - 1)) = m7
  have K7 : Kl m m7 := by rw [← hm7]; exact Kl.rf.sti (by unfold Pla; omega)
  have W7 := hW.kl K7
  have I7 : Inv m7 v := by
    refine A.2.1 _ _ _ hI (fun i _ => ?_) ?_ ?_
    · rw [← hm7, mi_get, if_neg (by omega)]
    · rw [← hm7]; funext j; rw [mi_get, if_neg (by omega)]
    · rw [← hm7]; rfl
  have h64 : ∀ d, d < S 1 → m7.1 64 d = nI (lfk S (fu w k c) k d) := by
    intro d hd
    rw [← hm7, mi_get, lfk_f hk]
    by_cases z : d = c
    · rw [if_pos ⟨rfl, z⟩, if_pos z, z]
    · rw [if_neg (fun y => z y.2), if_neg z, Nat.sub_zero]; exact hst.1 d hd
  have e7 : m7.1 63 c + m7.1 64 c = nI (nnk S F0 (fu w k c) k) := by
    rw [W7.2.2.2.2.1 c hc, h64 c hc, lfk_f hk, if_pos rfl, nI_add, hnn2]
  rw [e7]
  obtain ⟨y0, y1, y2, y3⟩ := hY.2.2.1 _ hnn
  obtain ⟨m11, p1, p2, p3, p4, p5, p6⟩ := l17_sp A ⟨w1, w2, w3, w4, w5, w6, w7, w8, w9, w10, w11, w12⟩ wc hY hk hc hleft hneed hVL hwp hrec (Y 2 (nnk S F0 (fu w k c) k)) 0 nf2 v m7 (by omega) (by omega) W7 h64 (by rw [← hm7, mi_get, if_neg (by omega)]; exact hst.2.1) (fun j j1 j2 => by rw [← hm7, mi_get, if_neg (by omega)]; exact hst.2.2 j j1 j2) I7
  unfold se_layTrick
  rw [if_pos (by rw [k4, nI_ltI (by omega) (by omega)]; omega), if_pos ((in_n (by omega)).mpr (by omega)), nI_n (by omega), show se_layTrick_l17 rec (nI k) (nI (nnk S F0 (fu w k c) k)) (cT need) (nI (suG S F0 Z w av (S 2 - (k + 1)))) (nI (nbG S F0 Z w av (S 2 - (k + 1)))) (nI (byG S F0 Z w av (S 2 - (k + 1)))) (nI (bkG S F0 Y Z w av (S 2 - (k + 1)))) (70 + 8 * nnk S F0 (fu w k c) k) nf2 0 m7 = some m11 from p1]
  simp only [Option.bind_some]
  have e11 : m11.1 64 c + 1 = nI (lfk S w (k + 1) c) := by
    rw [p2 c hc, lfk_f hk, if_pos rfl, nI_1, show lfk S w (k + 1) c - 1 + 1 = lfk S w (k + 1) c by omega]
  rw [e11]
  have K14 : Kl m (rm_i m11 64 c (nI (lfk S w (k + 1) c))) := (K7.tr p6).sti (by unfold Pla; omega)
  refine ⟨_, rfl, ⟨fun d hd => ?_, ?_, fun j j1 j2 => ?_⟩, ?_, K14, hW.kl K14⟩
  · rw [mi_get]
    by_cases z : d = c
    · rw [if_pos ⟨rfl, z⟩, z]
    · rw [if_neg (fun y => z y.2), p2 d hd, lfk_f hk, if_neg z, Nat.sub_zero]
  · rw [mi_get, if_neg (by omega)]; exact p3
  · rw [mi_get, if_neg (by omega)]; exact p4 j j1 j2
  · refine A.2.1 _ _ _ p5 (fun i _ => ?_) ?_ rfl
    · rw [mi_get, if_neg (by omega)]
    · funext j; rw [mi_get, if_neg (by omega)]
theorem l8_sp {V : Type} {S F0 : Nat → Nat} {Y : Nat → Nat → Nat} {Z : Nat → Nat → Nat → Nat} {aim : Nat} {Inv : rn_Mem → V → Prop} {add : V → (Nat → Nat) → (Nat → Nat) → V} (A : AI S F0 Y Z aim Inv add) (wg : WG S) (wc : WC S) (hY : YZ S F0 Y Z) {rec : Int32 → Int32 → Int32 → Int32 → Int32 → Int32 → rn_Mem → Option rn_Mem} {k need : Nat} {w av : Nat → Nat} (hk : k < S 2) (hneed : need < S 1 ∨ need = 4) (hVL : VL S F0 Y w av (k + 1)) (hwp : aim ≠ 2 → ∀ r, r < S 2 - (k + 1) → wrG S F0 Z w av r = 0) (hrec : k ≠ 0 → LY S F0 Y Z aim Inv add rec k) : ∀ (s c nf2 : Nat) (v : V) (m : rn_Mem), c + s = S 1 → s + 130 < nf2 → WMs S F0 Y Z m → ST S F0 Y w av (k + 1) m → Inv m v → ∃ m2, se_lay_l8 rec (nI k) (cT need) (nI (suG S F0 Z w av (S 2 - (k + 1)))) (nI (nbG S F0 Z w av (S 2 - (k + 1)))) (nI (byG S F0 Z w av (S 2 - (k + 1)))) (nI (bkG S F0 Y Z w av (S 2 - (k + 1)))) nf2 (nI c) m = some m2 ∧ Inv m2 (rfold (fun v c => if 0 < lfk S w (k + 1) c ∧ (S 6 = 1 ∨ need = 4 ∨ c = need) then rfold (fun v a => if mlk S k (Z 1 (nnk S F0 (fu w k c) k) a) need (lfk S (fu w k c) k (Z 1 (nnk S F0 (fu w k c) k) a)) = true then FO S F0 Y Z add k v (nxn S (Z 1 (nnk S F0 (fu w k c) k) a)) (fu w k c) (fu av k a) else v) (Y 2 (nnk S F0 (fu w k c) k)) 0 v else v) s c v) ∧ ST S F0 Y w av (k + 1) m2 ∧ Kl m m2 := by
  obtain ⟨w1, w2, w3, w4, w5, w6, w7, w8, w9, w10, w11, w12⟩ := wg
  have wg : WG S := ⟨w1, w2, w3, w4, w5, w6, w7, w8, w9, w10, w11, w12⟩
  intro s
  induction s with
  | zero =>
    intro c nf2 v m e hnf hW hst hI
    obtain ⟨nf2, rfl⟩ : ∃ e, nf2 = e + 1 := ⟨nf2 - 1, by omega⟩
    refine ⟨m, ?_, hI, hst, Kl.rf⟩
    rw [se_lay_l8, hW.1, if_neg (by rw [nI_ltI (by omega) (by omega)]; omega)]
  | succ s ih =>
    intro c nf2 v m e hnf hW hst hI
    obtain ⟨nf2, rfl⟩ : ∃ e, nf2 = e + 1 := ⟨nf2 - 1, by omega⟩
    have hin : rn_in (nI c) 4 = true := (in_n (by omega)).mpr (by omega)
    have hlle := lfk_le (S := S) (w := w) (k := k + 1) (c := c)
    have hYc := hY.1 c (by omega)
    have i3 : (0 : Int32) < nI (lfk S w (k + 1) c) ↔ 0 < lfk S w (k + 1) c := by rw [k0, nI_ltI (by omega) (by omega)]
    have i2 : nI (S 6) = 1 ↔ S 6 = 1 := by rw [k1, nI_eq (by omega) (by omega)]
    have i5 : cT need < 0 ↔ need = 4 := by rw [cT_lt]; omega
    rw [se_lay_l8, hW.1, if_pos (by rw [nI_ltI (by omega) (by omega)]; omega), if_pos hin]
    refine ob (Q := fun mq => ST S F0 Y w av (k + 1) mq ∧ Inv mq (if 0 < lfk S w (k + 1) c ∧ (S 6 = 1 ∨ need = 4 ∨ c = need) then rfold (fun v a => if mlk S k (Z 1 (nnk S F0 (fu w k c) k) a) need (lfk S (fu w k c) k (Z 1 (nnk S F0 (fu w k c) k) a)) = true then FO S F0 Y Z add k v (nxn S (Z 1 (nnk S F0 (fu w k c) k) a)) (fu w k c) (fu av k a) else v) (Y 2 (nnk S F0 (fu w k c) k)) 0 v else v) ∧ Kl m mq ∧ WMs S F0 Y Z mq) ?_ ?_
    case refine_2 =>
      rintro mq ⟨u1, u2, u3, u4⟩
      obtain ⟨mr, v1, v2, v3, v4⟩ := ih (c + 1) nf2 _ mq (by omega) (by omega) u4 u1 u2
      simp only [Option.bind_some]
      rw [nI_1]
      exact ⟨mr, v1, by rw [rfold]; exact v2, v3, u3.tr v4⟩
    have e64 : m.1 64 (nI c).toNatClampNeg = nI (lfk S w (k + 1) c) := by rw [nI_n (by omega)]; exact hst.1 c (by omega)
    by_cases z1 : 0 < lfk S w (k + 1) c
    case neg =>
      refine ⟨m, ?_, hst, ?_, Kl.rf, hW⟩
      · rw [e64, if_neg (mt i3.mp z1)]
      · rw [if_neg (fun y => z1 y.1)]; exact hI
    obtain ⟨mq, p1, p2, p3, p4, p5⟩ := l8_body (nf2 := nf2) (c := c) (v := v) (m := m) A wg wc hY hk hneed hVL hwp hrec (by omega) z1 (by omega) hW hst hI
    by_cases z2 : S 6 = 1
    · refine ⟨mq, ?_, p2, ?_, p4, p5⟩
      · rw [if_pos (by rw [e64]; exact i3.mpr z1), hW.2.2.1, if_pos (i2.mpr z2)]
        exact p1
      · rw [if_pos ⟨z1, Or.inl z2⟩]; exact p3
    by_cases z3 : need = 4
    · refine ⟨mq, ?_, p2, ?_, p4, p5⟩
      · rw [if_pos (by rw [e64]; exact i3.mpr z1), hW.2.2.1, if_neg (mt i2.mp z2), if_pos (i5.mpr z3)]
        exact p1
      · rw [if_pos ⟨z1, Or.inr (Or.inl z3)⟩]; exact p3
    by_cases z4 : c = need
    · refine ⟨mq, ?_, p2, ?_, p4, p5⟩
      · rw [if_pos (by rw [e64]; exact i3.mpr z1), hW.2.2.1, if_neg (mt i2.mp z2), if_neg (mt i5.mp z3), if_pos ((eq_nc (by omega)).mpr z4)]
        exact p1
      · rw [if_pos ⟨z1, Or.inr (Or.inr z4)⟩]; exact p3
    · refine ⟨m, ?_, hst, ?_, Kl.rf, hW⟩
      · rw [if_pos (by rw [e64]; exact i3.mpr z1), hW.2.2.1, if_neg (mt i2.mp z2), if_neg (mt i5.mp z3), if_neg (mt (eq_nc (by omega)).mp z4)]
      · rw [if_neg (fun y => y.2.elim z2 fun y => y.elim z3 z4)]; exact hI
theorem lay_sp {V : Type} {S F0 : Nat → Nat} {Y : Nat → Nat → Nat} {Z : Nat → Nat → Nat → Nat} {aim : Nat} {Inv : rn_Mem → V → Prop} {add : V → (Nat → Nat) → (Nat → Nat) → V} (A : AI S F0 Y Z aim Inv add) (wg : WG S) (wc : WC S) (hY : YZ S F0 Y Z) {nf : Nat} (hnf : 140 < nf) : ∀ k, k < S 2 → ∀ d, k < d → LY S F0 Y Z aim Inv add (se_lay nf d) (k + 1) := by
  obtain ⟨w1, w2, w3, w4, w5, w6, w7, w8, w9, w10, w11, w12⟩ := wg
  have wg : WG S := ⟨w1, w2, w3, w4, w5, w6, w7, w8, w9, w10, w11, w12⟩
  intro k
  induction k with
  | zero =>
    intro hk d hd w av need v m hneed hW hst hI hVL hwp
    obtain ⟨d, rfl⟩ : ∃ e, d = e + 1 := ⟨d - 1, by omega⟩
    obtain ⟨m2, p1, p2, p3, p4⟩ := l8_sp A wg wc hY (rec := se_lay nf d) (k := 0) hk hneed hVL hwp (fun z => absurd rfl z) (S 1) 0 nf v m (by omega) (by omega) hW hst hI
    refine ⟨m2, ?_, by rw [FO]; exact p2, p3, p4⟩
    rw [se_lay]
    unfold se_lay_1
    rw [if_neg (by decide), show se_lay_l8 (se_lay nf d) (nI (0 + 1 - 1)) (cT need) (nI (suG S F0 Z w av (S 2 - (0 + 1)))) (nI (nbG S F0 Z w av (S 2 - (0 + 1)))) (nI (byG S F0 Z w av (S 2 - (0 + 1)))) (nI (bkG S F0 Y Z w av (S 2 - (0 + 1)))) nf 0 m = some m2 from p1]
    rfl
  | succ k ih =>
    intro hk d hd w av need v m hneed hW hst hI hVL hwp
    obtain ⟨d, rfl⟩ : ∃ e, d = e + 1 := ⟨d - 1, by omega⟩
    obtain ⟨m2, p1, p2, p3, p4⟩ := l8_sp A wg wc hY (rec := se_lay nf d) (k := k + 1) hk hneed hVL hwp (fun _ => ih (by omega) d (by omega)) (S 1) 0 nf v m (by omega) (by omega) hW hst hI
    refine ⟨m2, ?_, by rw [FO]; exact p2, p3, p4⟩
    rw [se_lay]
    unfold se_lay_1
    rw [if_neg (by rw [k0, nI_ltI (by omega) (by omega)]; omega), show se_lay_l8 (se_lay nf d) (nI (k + 1 + 1 - 1)) (cT need) (nI (suG S F0 Z w av (S 2 - (k + 1 + 1)))) (nI (nbG S F0 Z w av (S 2 - (k + 1 + 1)))) (nI (byG S F0 Z w av (S 2 - (k + 1 + 1)))) (nI (bkG S F0 Y Z w av (S 2 - (k + 1 + 1)))) nf 0 m = some m2 from p1]
    rfl
/-- from the last trick on -/
theorem lay_top {V : Type} {S F0 : Nat → Nat} {Y : Nat → Nat → Nat} {Z : Nat → Nat → Nat → Nat} {aim : Nat} {Inv : rn_Mem → V → Prop} {add : V → (Nat → Nat) → (Nat → Nat) → V} (A : AI S F0 Y Z aim Inv add) (wg : WG S) (wc : WC S) (hY : YZ S F0 Y Z) {nf : Nat} (hnf : 140 < nf) (w av : Nat → Nat) {need : Nat} {v : V} {m : rn_Mem} (hneed : need < S 1 ∨ need = 4) (hW : WMs S F0 Y Z m) (h64 : ∀ c, c < S 1 → m.1 64 c = nI (S (12 + c) / S 1)) (h9 : m.1 51 9 = 0) (hI : Inv m v) : ∃ m2, se_lay nf 16 (nI (S 2 - 1)) (cT need) 0 0 0 0 m = some m2 ∧ Inv m2 (FO S F0 Y Z add (S 2) v need w av) ∧ Kl m m2 ∧ WMs S F0 Y Z m2 ∧ (∀ c, c < S 1 → m2.1 64 c = nI (S (12 + c) / S 1)) := by
  obtain ⟨w1, w2, w3, w4, w5, w6, w7, w8, w9, w10, w11, w12⟩ := wg
  have wg : WG S := ⟨w1, w2, w3, w4, w5, w6, w7, w8, w9, w10, w11, w12⟩
  have h := lay_sp A wg wc hY hnf (S 2 - 1) (by omega) 16 (by omega) w av need v m hneed hW
  rw [show S 2 - 1 + 1 = S 2 by omega, Nat.sub_self] at h
  obtain ⟨m2, p1, p2, p3, p4⟩ := h ⟨fun c hc => by rw [lfk_t]; exact h64 c hc, by rw [Nat.sub_self, laG]; exact h9, fun j h1 h2 => by omega⟩ hI (fun j h1 h2 => by omega) (fun _ r hr => absurd hr (Nat.not_lt_zero r))
  exact ⟨m2, p1, p2, p4, hW.kl p4, fun c hc => by rw [p3.1 c hc, lfk_t]⟩
