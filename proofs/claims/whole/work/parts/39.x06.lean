/-! mo_size -/
theorem op155_0 : rn_op 155 0 = some (.aload_n 0, 1, 0, 0, 0) := by decide +kernel
theorem op155_1 : rn_op 155 1 = some (.getfield 7, 3, 11, 0, 3) := by decide +kernel
theorem op155_4 : rn_op 155 4 = some (.iconst 1, 1, 0, 0, 0) := by decide +kernel
theorem op155_5 : rn_op 155 5 = some (.iaload, 1, 0, 0, 0) := by decide +kernel
theorem op155_6 : rn_op 155 6 = some (.aload_n 0, 1, 0, 0, 0) := by decide +kernel
theorem op155_7 : rn_op 155 7 = some (.getfield 7, 3, 11, 0, 3) := by decide +kernel
theorem op155_10 : rn_op 155 10 = some (.iconst 2, 1, 0, 0, 0) := by decide +kernel
theorem op155_11 : rn_op 155 11 = some (.iaload, 1, 0, 0, 0) := by decide +kernel
theorem op155_12 : rn_op 155 12 = some (.imul, 1, 0, 0, 0) := by decide +kernel
theorem op155_13 : rn_op 155 13 = some (.ireturn, 1, 0, 0, 0) := by decide +kernel
def mo_size (n : Nat)  (m : rn_Mem) : Option (Int32 × rn_Mem) :=
  some ((m.1 116 1) * (m.1 116 2), m)
set_option maxHeartbeats 4000000 in
set_option maxRecDepth 20000 in
theorem mo_size_ok (xs : List Int32) {d : Nat} (hd : 0 ≤ d) {n : Nat} {m mO : rn_Mem} {rO : Int32} (h : mo_size n  m = some (rO, mO)) : rn_R xs d 155 0 (rn_ent 1 [.ref 115]) [] (rn_SH, m) (some (.int rO)) (rn_SH, mO) := by
  unfold mo_size at h
  show rn_R xs d 155 0 [some (.ref 115)] [] (rn_SH, m) (some (.int rO)) (rn_SH, mO)
  refine rx_p (L2 := [some (.ref 115)]) (S2 := [.ref 115]) (pc2 := 1) op155_0 rfl rfl ?_
  refine rx_gf (v := .ref 116) (pc2 := 4) op155_1 sp_115 rfl rfl rfl ?_
  refine rx_ic (v := 1) (pc2 := 5) op155_4 (by decide) rfl ?_
  refine rx_ia (j := 1) (pc2 := 6) op155_5 (rn_shlt sp_116) sp_116 (by decide) (by decide) rfl ?_
  refine rx_p (L2 := [some (.ref 115)]) (S2 := [.ref 115, .int (m.1 116 1)]) (pc2 := 7) op155_6 rfl rfl ?_
  refine rx_gf (v := .ref 116) (pc2 := 10) op155_7 sp_115 rfl rfl rfl ?_
  refine rx_ic (v := 2) (pc2 := 11) op155_10 (by decide) rfl ?_
  refine rx_ia (j := 2) (pc2 := 12) op155_11 (rn_shlt sp_116) sp_116 (by decide) (by decide) rfl ?_
  refine rx_p (L2 := [some (.ref 115)]) (S2 := [.int ((m.1 116 1) * (m.1 116 2))]) (pc2 := 13) op155_12 rfl rfl ?_
  obtain ⟨rfl, rfl⟩ := rq_ret h
  exact ry_ri op155_13 ms_155 rfl
/-! mo_game -/
theorem op148_0 : rn_op 148 0 = some (.aload_n 0, 1, 0, 0, 0) := by decide +kernel
theorem op148_1 : rn_op 148 1 = some (.invokevirtual 163, 3, 149, 1, 11) := by decide +kernel
theorem op148_4 : rn_op 148 4 = some (.istore_n 1, 1, 0, 0, 0) := by decide +kernel
theorem op148_5 : rn_op 148 5 = some (.aload_n 0, 1, 0, 0, 0) := by decide +kernel
theorem op148_6 : rn_op 148 6 = some (.iconst 0, 1, 0, 0, 0) := by decide +kernel
theorem op148_7 : rn_op 148 7 = some (.putfield 135, 3, 11, 2, 0) := by decide +kernel
theorem op148_10 : rn_op 148 10 = some (.iload_n 1, 1, 0, 0, 0) := by decide +kernel
theorem op148_11 : rn_op 148 11 = some (.ifCond .ne 11, 3, 0, 0, 0) := by decide +kernel
theorem op148_14 : rn_op 148 14 = some (.bipush (-20), 2, 0, 0, 0) := by decide +kernel
theorem op148_16 : rn_op 148 16 = some (.aload_n 0, 1, 0, 0, 0) := by decide +kernel
theorem op148_17 : rn_op 148 17 = some (.getfield 139, 3, 11, 3, 0) := by decide +kernel
theorem op148_20 : rn_op 148 20 = some (.isub, 1, 0, 0, 0) := by decide +kernel
theorem op148_21 : rn_op 148 21 = some (.ireturn, 1, 0, 0, 0) := by decide +kernel
theorem op148_22 : rn_op 148 22 = some (.iconst 0, 1, 0, 0, 0) := by decide +kernel
theorem op148_23 : rn_op 148 23 = some (.istore_n 2, 1, 0, 0, 0) := by decide +kernel
theorem op148_24 : rn_op 148 24 = some (.iload_n 2, 1, 0, 0, 0) := by decide +kernel
theorem op148_25 : rn_op 148 25 = some (.bipush 101, 2, 0, 0, 0) := by decide +kernel
theorem op148_27 : rn_op 148 27 = some (.if_icmp .ge 16, 3, 0, 0, 0) := by decide +kernel
theorem op148_30 : rn_op 148 30 = some (.aload_n 0, 1, 0, 0, 0) := by decide +kernel
theorem op148_31 : rn_op 148 31 = some (.getfield 7, 3, 11, 0, 3) := by decide +kernel
theorem op148_34 : rn_op 148 34 = some (.iload_n 2, 1, 0, 0, 0) := by decide +kernel
theorem op148_35 : rn_op 148 35 = some (.iconst 0, 1, 0, 0, 0) := by decide +kernel
theorem op148_36 : rn_op 148 36 = some (.iastore, 1, 0, 0, 0) := by decide +kernel
theorem op148_37 : rn_op 148 37 = some (.iinc 2 1, 3, 0, 0, 0) := by decide +kernel
theorem op148_40 : rn_op 148 40 = some (.goto (-16), 3, 0, 0, 0) := by decide +kernel
theorem op148_43 : rn_op 148 43 = some (.aload_n 0, 1, 0, 0, 0) := by decide +kernel
theorem op148_44 : rn_op 148 44 = some (.getfield 7, 3, 11, 0, 3) := by decide +kernel
theorem op148_47 : rn_op 148 47 = some (.iconst 0, 1, 0, 0, 0) := by decide +kernel
theorem op148_48 : rn_op 148 48 = some (.iconst 1, 1, 0, 0, 0) := by decide +kernel
theorem op148_49 : rn_op 148 49 = some (.iastore, 1, 0, 0, 0) := by decide +kernel
theorem op148_50 : rn_op 148 50 = some (.iconst 0, 1, 0, 0, 0) := by decide +kernel
theorem op148_51 : rn_op 148 51 = some (.istore_n 2, 1, 0, 0, 0) := by decide +kernel
theorem op148_52 : rn_op 148 52 = some (.iload_n 2, 1, 0, 0, 0) := by decide +kernel
theorem op148_53 : rn_op 148 53 = some (.bipush 8, 2, 0, 0, 0) := by decide +kernel
theorem op148_55 : rn_op 148 55 = some (.if_icmp .ge 23, 3, 0, 0, 0) := by decide +kernel
theorem op148_58 : rn_op 148 58 = some (.aload_n 0, 1, 0, 0, 0) := by decide +kernel
theorem op148_59 : rn_op 148 59 = some (.getfield 7, 3, 11, 0, 3) := by decide +kernel
theorem op148_62 : rn_op 148 62 = some (.iconst 1, 1, 0, 0, 0) := by decide +kernel
theorem op148_63 : rn_op 148 63 = some (.iload_n 2, 1, 0, 0, 0) := by decide +kernel
theorem op148_64 : rn_op 148 64 = some (.iadd, 1, 0, 0, 0) := by decide +kernel
theorem op148_65 : rn_op 148 65 = some (.aload_n 0, 1, 0, 0, 0) := by decide +kernel
theorem op148_66 : rn_op 148 66 = some (.getfield 16, 3, 11, 4, 3) := by decide +kernel
theorem op148_69 : rn_op 148 69 = some (.iload_n 2, 1, 0, 0, 0) := by decide +kernel
theorem op148_70 : rn_op 148 70 = some (.iaload, 1, 0, 0, 0) := by decide +kernel
theorem op148_71 : rn_op 148 71 = some (.iastore, 1, 0, 0, 0) := by decide +kernel
theorem op148_72 : rn_op 148 72 = some (.iinc 2 1, 3, 0, 0, 0) := by decide +kernel
theorem op148_75 : rn_op 148 75 = some (.goto (-23), 3, 0, 0, 0) := by decide +kernel
theorem op148_78 : rn_op 148 78 = some (.aload_n 0, 1, 0, 0, 0) := by decide +kernel
theorem op148_79 : rn_op 148 79 = some (.invokevirtual 167, 3, 155, 1, 11) := by decide +kernel
theorem op148_82 : rn_op 148 82 = some (.ireturn, 1, 0, 0, 0) := by decide +kernel
def mo_game_l24  : Nat → Int32 → rn_Mem → Option (rn_Mem)
  | 0, _, _ => none
  | n + 1, a2, m =>
    if a2 < 101 then
      if rn_in a2 101 = true then
        (some (rm_i m 116 a2.toNatClampNeg 0)).bind fun (m7 : rn_Mem) =>
        (some (a2 + 1)).bind fun (x9 : Int32) =>
        mo_game_l24 n x9 m7
      else none
    else
      some m
def mo_game_l52  : Nat → Int32 → rn_Mem → Option (rn_Mem)
  | 0, _, _ => none
  | n + 1, a2, m =>
    if a2 < 8 then
      if rn_in a2 64 = true then
        if rn_in ((1 : Int32) + a2) 101 = true then
          (some (rm_i m 116 ((1 : Int32) + a2).toNatClampNeg (m.1 118 a2.toNatClampNeg))).bind fun (m18 : rn_Mem) =>
          (some (a2 + 1)).bind fun (x20 : Int32) =>
          mo_game_l52 n x20 m18
        else none
      else none
    else
      some m
def mo_game (n : Nat)  (m : rn_Mem) : Option (Int32 × rn_Mem) :=
  (mo_readGame n m).bind fun (r2, m1) =>
  (some (rm_i m1 115 2 0)).bind fun (m4 : rn_Mem) =>
  if r2 = 0 then
    some (((-20) : Int32) - (m4.1 115 3), m4)
  else
    (mo_game_l24 n 0 m4).bind fun m11 =>
    (some (rm_i m11 116 0 1)).bind fun (m14 : rn_Mem) =>
    (mo_game_l52 n 0 m14).bind fun m22 =>
    (mo_size n m22).bind fun (r26, m25) =>
    some (r26, m25)
set_option maxHeartbeats 4000000 in
set_option maxRecDepth 20000 in
theorem mo_game_l24_ok (xs : List Int32) {d : Nat} (hd : 4 ≤ d + 1) {r : Option Value} {τ : rn_H} {out : rn_Mem} (hr : ∀ (mO : rn_Mem), out = mO → ∀ (o1 o2 : Option Value), rn_R xs (d + 1) 148 43 [some (.ref 115), o1, o2] [] (rn_SH, mO) r τ) : ∀ (n : Nat) (a2 : Int32) (o1 : Option Value) (m : rn_Mem), mo_game_l24 n a2 m = some out → rn_R xs (d + 1) 148 24 [some (.ref 115), o1, some (.int a2)] [] (rn_SH, m) r τ := by
  intro n
  induction n with
  | zero =>
    intro _ _ _ h
    cases h
  | succ n ih =>
    intro a2 o1 m h
    unfold mo_game_l24 at h
    try dsimp only at h
    refine rx_p (L2 := [some (.ref 115), o1, some (.int a2)]) (S2 := [.int a2]) (pc2 := 25) op148_24 rfl rfl ?_
    refine rx_bp (v := 101) (pc2 := 27) op148_25 (by decide) rfl ?_
    refine ry_ic_ge (tgt := 43) (pc2 := 30) op148_27 (by decide) (by decide) rfl (fun b6 => ?_) (fun b6 => ?_)
    · have h := (if_pos b6).symm.trans h
      refine rx_p (L2 := [some (.ref 115), o1, some (.int a2)]) (S2 := [.ref 115]) (pc2 := 31) op148_30 rfl rfl ?_
      refine rx_gf (v := .ref 116) (pc2 := 34) op148_31 sp_115 rfl rfl rfl ?_
      refine rx_p (L2 := [some (.ref 115), o1, some (.int a2)]) (S2 := [.int a2, .ref 116]) (pc2 := 35) op148_34 rfl rfl ?_
      refine rx_ic (v := 0) (pc2 := 36) op148_35 (by decide) rfl ?_
      obtain ⟨k8, h⟩ := rq_chk h
      obtain ⟨m7, em7, h⟩ := rq_bv h
      refine rx_is (m2 := m7) (pc2 := 37) op148_36 sp_116 k8 rfl em7 rfl ?_
      obtain ⟨x9, ex9, h⟩ := rq_bv h
      refine rx_incd (w := 1) (v := x9) (j := 1) (pc2 := 40) op148_37 rfl (by decide) ex9 rfl (fun o10 => ?_)
      show rn_R _ _ _ _ [some (.ref 115), o10, some (.int x9)] _ _ _ _
      refine ry_go (tgt := 24) op148_40 (by decide) (by decide) ?_
      exact ih _ _ _ h
    · have h := (if_neg b6).symm.trans h
      cases h
      exact hr _ rfl _ _
set_option maxHeartbeats 4000000 in
set_option maxRecDepth 20000 in
theorem mo_game_l52_ok (xs : List Int32) {d : Nat} (hd : 4 ≤ d + 1) {r : Option Value} {τ : rn_H} {out : rn_Mem} (hr : ∀ (mO : rn_Mem), out = mO → ∀ (o1 o2 : Option Value), rn_R xs (d + 1) 148 78 [some (.ref 115), o1, o2] [] (rn_SH, mO) r τ) : ∀ (n : Nat) (a2 : Int32) (o1 : Option Value) (m : rn_Mem), mo_game_l52 n a2 m = some out → rn_R xs (d + 1) 148 52 [some (.ref 115), o1, some (.int a2)] [] (rn_SH, m) r τ := by
  intro n
  induction n with
  | zero =>
    intro _ _ _ h
    cases h
  | succ n ih =>
    intro a2 o1 m h
    unfold mo_game_l52 at h
    try dsimp only at h
    refine rx_p (L2 := [some (.ref 115), o1, some (.int a2)]) (S2 := [.int a2]) (pc2 := 53) op148_52 rfl rfl ?_
    refine rx_bp (v := 8) (pc2 := 55) op148_53 (by decide) rfl ?_
    refine ry_ic_ge (tgt := 78) (pc2 := 58) op148_55 (by decide) (by decide) rfl (fun b16 => ?_) (fun b16 => ?_)
    · have h := (if_pos b16).symm.trans h
      refine rx_p (L2 := [some (.ref 115), o1, some (.int a2)]) (S2 := [.ref 115]) (pc2 := 59) op148_58 rfl rfl ?_
      refine rx_gf (v := .ref 116) (pc2 := 62) op148_59 sp_115 rfl rfl rfl ?_
      refine rx_ic (v := 1) (pc2 := 63) op148_62 (by decide) rfl ?_
      refine rx_p (L2 := [some (.ref 115), o1, some (.int a2)]) (S2 := [.int a2, .int 1, .ref 116]) (pc2 := 64) op148_63 rfl rfl ?_
      refine rx_p (L2 := [some (.ref 115), o1, some (.int a2)]) (S2 := [.int ((1 : Int32) + a2), .ref 116]) (pc2 := 65) op148_64 rfl rfl ?_
      refine rx_p (L2 := [some (.ref 115), o1, some (.int a2)]) (S2 := [.ref 115, .int ((1 : Int32) + a2), .ref 116]) (pc2 := 66) op148_65 rfl rfl ?_
      refine rx_gf (v := .ref 118) (pc2 := 69) op148_66 sp_115 rfl rfl rfl ?_
      refine rx_p (L2 := [some (.ref 115), o1, some (.int a2)]) (S2 := [.int a2, .ref 118, .int ((1 : Int32) + a2), .ref 116]) (pc2 := 70) op148_69 rfl rfl ?_
      obtain ⟨k17, h⟩ := rq_chk h
      refine rx_ia (pc2 := 71) op148_70 (rn_shlt sp_118) sp_118 k17 rfl rfl ?_
      obtain ⟨k19, h⟩ := rq_chk h
      obtain ⟨m18, em18, h⟩ := rq_bv h
      refine rx_is (m2 := m18) (pc2 := 72) op148_71 sp_116 k19 rfl em18 rfl ?_
      obtain ⟨x20, ex20, h⟩ := rq_bv h
      refine rx_incd (w := 1) (v := x20) (j := 1) (pc2 := 75) op148_72 rfl (by decide) ex20 rfl (fun o21 => ?_)
      show rn_R _ _ _ _ [some (.ref 115), o21, some (.int x20)] _ _ _ _
      refine ry_go (tgt := 52) op148_75 (by decide) (by decide) ?_
      exact ih _ _ _ h
    · have h := (if_neg b16).symm.trans h
      cases h
      exact hr _ rfl _ _
set_option maxHeartbeats 4000000 in
set_option maxRecDepth 20000 in
theorem mo_game_ok (xs : List Int32) {d : Nat} (hd : 4 ≤ d) {n : Nat} {m mO : rn_Mem} {rO : Int32} (h : mo_game n  m = some (rO, mO)) : rn_R xs d 148 0 (rn_ent 3 [.ref 115]) [] (rn_SH, m) (some (.int rO)) (rn_SH, mO) := by
  obtain ⟨d, rfl⟩ : ∃ e, d = e + 1 := ⟨d - 1, by omega⟩
  unfold mo_game at h
  show rn_R xs (d + 1) 148 0 [some (.ref 115), none, none] [] (rn_SH, m) (some (.int rO)) (rn_SH, mO)
  refine rx_p (L2 := [some (.ref 115), none, none]) (S2 := [.ref 115]) (pc2 := 1) op148_0 rfl rfl ?_
  obtain ⟨⟨r2, m1⟩, f3, h⟩ := rq_bind h
  try dsimp only at h
  refine ry_iv (p := 115) (vs := []) (T := []) (pc2 := 4) op148_1 ms_149 (by decide) rfl rfl (Nat.le_of_ble_eq_true rfl) (Nat.le_of_ble_eq_true rfl) sp_115 (mo_readGame_ok xs (by omega)  f3) rfl ?_
  show rn_R _ _ _ _ _ [.int r2] _ _ _
  refine rx_s (L2 := [some (.ref 115), some (.int r2), none]) (pc2 := 5) op148_4 rfl rfl rfl ?_
  refine rx_p (L2 := [some (.ref 115), some (.int r2), none]) (S2 := [.ref 115]) (pc2 := 6) op148_5 rfl rfl ?_
  refine rx_ic (v := 0) (pc2 := 7) op148_6 (by decide) rfl ?_
  obtain ⟨m4, em4, h⟩ := rq_bv h
  refine rx_pf (m2 := m4) (pc2 := 10) op148_7 sp_115 rfl em4 rfl ?_
  refine rx_p (L2 := [some (.ref 115), some (.int r2), none]) (S2 := [.int r2]) (pc2 := 11) op148_10 rfl rfl ?_
  refine ry_if_ne (tgt := 22) (pc2 := 14) op148_11 (by decide) (by decide) rfl (fun b5 => ?_) (fun b5 => ?_)
  · have h := (if_pos b5).symm.trans h
    refine rx_bp (v := (-20)) (pc2 := 16) op148_14 (by decide) rfl ?_
    refine rx_p (L2 := [some (.ref 115), some (.int r2), none]) (S2 := [.ref 115, .int (-20)]) (pc2 := 17) op148_16 rfl rfl ?_
    refine rx_gf (v := .int (m4.1 115 3)) (pc2 := 20) op148_17 sp_115 rfl rfl rfl ?_
    refine rx_p (L2 := [some (.ref 115), some (.int r2), none]) (S2 := [.int (((-20) : Int32) - (m4.1 115 3))]) (pc2 := 21) op148_20 rfl rfl ?_
    obtain ⟨rfl, rfl⟩ := rq_ret h
    exact ry_ri op148_21 ms_148 rfl
  · have h := (if_neg b5).symm.trans h
    refine rx_ic (v := 0) (pc2 := 23) op148_22 (by decide) rfl ?_
    refine rx_s (L2 := [some (.ref 115), some (.int r2), some (.int 0)]) (pc2 := 24) op148_23 rfl rfl rfl ?_
    obtain ⟨m11, f29, h⟩ := rq_bind h
    refine mo_game_l24_ok xs hd (fun m0 eq => ?_) _ _ _ _  f29
    subst eq
    try dsimp only at h
    intro o12 o13
    refine rx_p (L2 := [some (.ref 115), o12, o13]) (S2 := [.ref 115]) (pc2 := 44) op148_43 rfl rfl ?_
    refine rx_gf (v := .ref 116) (pc2 := 47) op148_44 sp_115 rfl rfl rfl ?_
    refine rx_ic (v := 0) (pc2 := 48) op148_47 (by decide) rfl ?_
    refine rx_ic (v := 1) (pc2 := 49) op148_48 (by decide) rfl ?_
    obtain ⟨m14, em14, h⟩ := rq_bv h
    refine rx_is (j := 0) (m2 := m14) (pc2 := 50) op148_49 sp_116 (by decide) (by decide) em14 rfl ?_
    refine rx_ic (v := 0) (pc2 := 51) op148_50 (by decide) rfl ?_
    refine rx_sd (v := 0) (j := 1) (pc2 := 52) op148_51 rfl rfl (Nat.le_of_ble_eq_true rfl) rfl (fun o15 => ?_)
    show rn_R _ _ _ _ [some (.ref 115), o15, some (.int 0)] _ _ _ _
    obtain ⟨m22, f28, h⟩ := rq_bind h
    refine mo_game_l52_ok xs hd (fun m0 eq => ?_) _ _ _ _  f28
    subst eq
    try dsimp only at h
    intro o23 o24
    refine rx_p (L2 := [some (.ref 115), o23, o24]) (S2 := [.ref 115]) (pc2 := 79) op148_78 rfl rfl ?_
    obtain ⟨⟨r26, m25⟩, f27, h⟩ := rq_bind h
    try dsimp only at h
    refine ry_iv (p := 115) (vs := []) (T := []) (pc2 := 82) op148_79 ms_155 (by decide) rfl rfl (Nat.le_of_ble_eq_true rfl) (Nat.le_of_ble_eq_true rfl) sp_115 (mo_size_ok xs (by omega)  f27) rfl ?_
    show rn_R _ _ _ _ _ [.int r26] _ _ _
    obtain ⟨rfl, rfl⟩ := rq_ret h
    exact ry_ri op148_82 ms_148 rfl
/-! mo_readTable -/
theorem op157_0 : rn_op 157 0 = some (.aload_n 0, 1, 0, 0, 0) := by decide +kernel
theorem op157_1 : rn_op 157 1 = some (.iconst 0, 1, 0, 0, 0) := by decide +kernel
theorem op157_2 : rn_op 157 2 = some (.putfield 139, 3, 11, 3, 0) := by decide +kernel
theorem op157_5 : rn_op 157 5 = some (.aload_n 0, 1, 0, 0, 0) := by decide +kernel
theorem op157_6 : rn_op 157 6 = some (.getfield 7, 3, 11, 0, 3) := by decide +kernel
theorem op157_9 : rn_op 157 9 = some (.iconst 3, 1, 0, 0, 0) := by decide +kernel
theorem op157_10 : rn_op 157 10 = some (.iaload, 1, 0, 0, 0) := by decide +kernel
theorem op157_11 : rn_op 157 11 = some (.istore_n 1, 1, 0, 0, 0) := by decide +kernel
theorem op157_12 : rn_op 157 12 = some (.iconst 0, 1, 0, 0, 0) := by decide +kernel
theorem op157_13 : rn_op 157 13 = some (.istore_n 2, 1, 0, 0, 0) := by decide +kernel
theorem op157_14 : rn_op 157 14 = some (.iconst 0, 1, 0, 0, 0) := by decide +kernel
theorem op157_15 : rn_op 157 15 = some (.istore_n 3, 1, 0, 0, 0) := by decide +kernel
theorem op157_16 : rn_op 157 16 = some (.iconst 0, 1, 0, 0, 0) := by decide +kernel
theorem op157_17 : rn_op 157 17 = some (.istore 4, 2, 0, 0, 0) := by decide +kernel
theorem op157_19 : rn_op 157 19 = some (.iload 4, 2, 0, 0, 0) := by decide +kernel
theorem op157_21 : rn_op 157 21 = some (.aload_n 0, 1, 0, 0, 0) := by decide +kernel
theorem op157_22 : rn_op 157 22 = some (.getfield 7, 3, 11, 0, 3) := by decide +kernel
theorem op157_25 : rn_op 157 25 = some (.iconst 1, 1, 0, 0, 0) := by decide +kernel
theorem op157_26 : rn_op 157 26 = some (.iaload, 1, 0, 0, 0) := by decide +kernel
theorem op157_27 : rn_op 157 27 = some (.if_icmp .ge 219, 3, 0, 0, 0) := by decide +kernel
theorem op157_30 : rn_op 157 30 = some (.aload_n 0, 1, 0, 0, 0) := by decide +kernel
theorem op157_31 : rn_op 157 31 = some (.getfield 16, 3, 11, 4, 3) := by decide +kernel
theorem op157_34 : rn_op 157 34 = some (.iload 4, 2, 0, 0, 0) := by decide +kernel
theorem op157_36 : rn_op 157 36 = some (.iconst 0, 1, 0, 0, 0) := by decide +kernel
theorem op157_37 : rn_op 157 37 = some (.iastore, 1, 0, 0, 0) := by decide +kernel
theorem op157_38 : rn_op 157 38 = some (.aload_n 0, 1, 0, 0, 0) := by decide +kernel
theorem op157_39 : rn_op 157 39 = some (.invokevirtual 142, 3, 152, 1, 11) := by decide +kernel
theorem op157_42 : rn_op 157 42 = some (.istore 5, 2, 0, 0, 0) := by decide +kernel
theorem op157_44 : rn_op 157 44 = some (.iload 5, 2, 0, 0, 0) := by decide +kernel
theorem op157_46 : rn_op 157 46 = some (.ifCond .lt 121, 3, 0, 0, 0) := by decide +kernel
theorem op157_49 : rn_op 157 49 = some (.iload 5, 2, 0, 0, 0) := by decide +kernel
theorem op157_51 : rn_op 157 51 = some (.bipush 59, 2, 0, 0, 0) := by decide +kernel
theorem op157_53 : rn_op 157 53 = some (.if_icmp .eq 114, 3, 0, 0, 0) := by decide +kernel
theorem op157_56 : rn_op 157 56 = some (.iload_n 2, 1, 0, 0, 0) := by decide +kernel
theorem op157_57 : rn_op 157 57 = some (.aload_n 0, 1, 0, 0, 0) := by decide +kernel
theorem op157_58 : rn_op 157 58 = some (.invokevirtual 167, 3, 155, 1, 11) := by decide +kernel
theorem op157_61 : rn_op 157 61 = some (.if_icmp .ne 5, 3, 0, 0, 0) := by decide +kernel
theorem op157_64 : rn_op 157 64 = some (.iconst 0, 1, 0, 0, 0) := by decide +kernel
theorem op157_65 : rn_op 157 65 = some (.ireturn, 1, 0, 0, 0) := by decide +kernel
theorem op157_66 : rn_op 157 66 = some (.iconst (-1), 1, 0, 0, 0) := by decide +kernel
theorem op157_67 : rn_op 157 67 = some (.istore 6, 2, 0, 0, 0) := by decide +kernel
theorem op157_69 : rn_op 157 69 = some (.iload 5, 2, 0, 0, 0) := by decide +kernel
theorem op157_71 : rn_op 157 71 = some (.bipush 63, 2, 0, 0, 0) := by decide +kernel
theorem op157_73 : rn_op 157 73 = some (.if_icmp .ne 26, 3, 0, 0, 0) := by decide +kernel
theorem op157_76 : rn_op 157 76 = some (.iload_n 3, 1, 0, 0, 0) := by decide +kernel
theorem op157_77 : rn_op 157 77 = some (.iconst 3, 1, 0, 0, 0) := by decide +kernel
theorem op157_78 : rn_op 157 78 = some (.if_icmp .ne 5, 3, 0, 0, 0) := by decide +kernel
theorem op157_81 : rn_op 157 81 = some (.iconst 0, 1, 0, 0, 0) := by decide +kernel
theorem op157_82 : rn_op 157 82 = some (.ireturn, 1, 0, 0, 0) := by decide +kernel
theorem op157_83 : rn_op 157 83 = some (.iinc 3 1, 3, 0, 0, 0) := by decide +kernel
theorem op157_86 : rn_op 157 86 = some (.aload_n 0, 1, 0, 0, 0) := by decide +kernel
theorem op157_87 : rn_op 157 87 = some (.dup, 1, 0, 0, 0) := by decide +kernel
theorem op157_88 : rn_op 157 88 = some (.getfield 139, 3, 11, 3, 0) := by decide +kernel
theorem op157_91 : rn_op 157 91 = some (.iconst 1, 1, 0, 0, 0) := by decide +kernel
theorem op157_92 : rn_op 157 92 = some (.iadd, 1, 0, 0, 0) := by decide +kernel
theorem op157_93 : rn_op 157 93 = some (.putfield 139, 3, 11, 3, 0) := by decide +kernel
theorem op157_96 : rn_op 157 96 = some (.goto 26, 3, 0, 0, 0) := by decide +kernel
theorem op157_99 : rn_op 157 99 = some (.aload_n 0, 1, 0, 0, 0) := by decide +kernel
theorem op157_100 : rn_op 157 100 = some (.iload_n 1, 1, 0, 0, 0) := by decide +kernel
theorem op157_101 : rn_op 157 101 = some (.invokevirtual 159, 3, 153, 2, 11) := by decide +kernel
theorem op157_104 : rn_op 157 104 = some (.istore 6, 2, 0, 0, 0) := by decide +kernel
theorem op157_106 : rn_op 157 106 = some (.iload 6, 2, 0, 0, 0) := by decide +kernel
theorem op157_108 : rn_op 157 108 = some (.ifCond .ge 5, 3, 0, 0, 0) := by decide +kernel
theorem op157_111 : rn_op 157 111 = some (.iconst 0, 1, 0, 0, 0) := by decide +kernel
theorem op157_112 : rn_op 157 112 = some (.ireturn, 1, 0, 0, 0) := by decide +kernel
theorem op157_113 : rn_op 157 113 = some (.iload_n 1, 1, 0, 0, 0) := by decide +kernel
theorem op157_114 : rn_op 157 114 = some (.iconst 1, 1, 0, 0, 0) := by decide +kernel
theorem op157_115 : rn_op 157 115 = some (.iload 6, 2, 0, 0, 0) := by decide +kernel
theorem op157_117 : rn_op 157 117 = some (.ishl, 1, 0, 0, 0) := by decide +kernel
theorem op157_118 : rn_op 157 118 = some (.iconst (-1), 1, 0, 0, 0) := by decide +kernel
theorem op157_119 : rn_op 157 119 = some (.ixor, 1, 0, 0, 0) := by decide +kernel
theorem op157_120 : rn_op 157 120 = some (.iand, 1, 0, 0, 0) := by decide +kernel
theorem op157_121 : rn_op 157 121 = some (.istore_n 1, 1, 0, 0, 0) := by decide +kernel
theorem op157_122 : rn_op 157 122 = some (.aload_n 0, 1, 0, 0, 0) := by decide +kernel
theorem op157_123 : rn_op 157 123 = some (.getfield 16, 3, 11, 4, 3) := by decide +kernel
theorem op157_126 : rn_op 157 126 = some (.iconst 4, 1, 0, 0, 0) := by decide +kernel
theorem op157_127 : rn_op 157 127 = some (.bipush 12, 2, 0, 0, 0) := by decide +kernel
theorem op157_129 : rn_op 157 129 = some (.iload 4, 2, 0, 0, 0) := by decide +kernel
theorem op157_131 : rn_op 157 131 = some (.imul, 1, 0, 0, 0) := by decide +kernel
theorem op157_132 : rn_op 157 132 = some (.iadd, 1, 0, 0, 0) := by decide +kernel
theorem op157_133 : rn_op 157 133 = some (.aload_n 0, 1, 0, 0, 0) := by decide +kernel
theorem op157_134 : rn_op 157 134 = some (.getfield 16, 3, 11, 4, 3) := by decide +kernel
theorem op157_137 : rn_op 157 137 = some (.iload 4, 2, 0, 0, 0) := by decide +kernel
theorem op157_139 : rn_op 157 139 = some (.iaload, 1, 0, 0, 0) := by decide +kernel
theorem op157_140 : rn_op 157 140 = some (.iadd, 1, 0, 0, 0) := by decide +kernel
theorem op157_141 : rn_op 157 141 = some (.iload 6, 2, 0, 0, 0) := by decide +kernel
theorem op157_143 : rn_op 157 143 = some (.iastore, 1, 0, 0, 0) := by decide +kernel
theorem op157_144 : rn_op 157 144 = some (.aload_n 0, 1, 0, 0, 0) := by decide +kernel
theorem op157_145 : rn_op 157 145 = some (.getfield 16, 3, 11, 4, 3) := by decide +kernel
theorem op157_148 : rn_op 157 148 = some (.iload 4, 2, 0, 0, 0) := by decide +kernel
theorem op157_150 : rn_op 157 150 = some (.dup2, 1, 0, 0, 0) := by decide +kernel
theorem op157_151 : rn_op 157 151 = some (.iaload, 1, 0, 0, 0) := by decide +kernel
theorem op157_152 : rn_op 157 152 = some (.iconst 1, 1, 0, 0, 0) := by decide +kernel
theorem op157_153 : rn_op 157 153 = some (.iadd, 1, 0, 0, 0) := by decide +kernel
theorem op157_154 : rn_op 157 154 = some (.iastore, 1, 0, 0, 0) := by decide +kernel
theorem op157_155 : rn_op 157 155 = some (.iinc 2 1, 3, 0, 0, 0) := by decide +kernel
theorem op157_158 : rn_op 157 158 = some (.aload_n 0, 1, 0, 0, 0) := by decide +kernel
theorem op157_159 : rn_op 157 159 = some (.invokevirtual 142, 3, 152, 1, 11) := by decide +kernel
theorem op157_162 : rn_op 157 162 = some (.istore 5, 2, 0, 0, 0) := by decide +kernel
theorem op157_164 : rn_op 157 164 = some (.goto (-120), 3, 0, 0, 0) := by decide +kernel
theorem op157_167 : rn_op 157 167 = some (.iload 4, 2, 0, 0, 0) := by decide +kernel
theorem op157_169 : rn_op 157 169 = some (.aload_n 0, 1, 0, 0, 0) := by decide +kernel
theorem op157_170 : rn_op 157 170 = some (.getfield 7, 3, 11, 0, 3) := by decide +kernel
theorem op157_173 : rn_op 157 173 = some (.iconst 1, 1, 0, 0, 0) := by decide +kernel
theorem op157_174 : rn_op 157 174 = some (.iaload, 1, 0, 0, 0) := by decide +kernel
theorem op157_175 : rn_op 157 175 = some (.iconst 1, 1, 0, 0, 0) := by decide +kernel
theorem op157_176 : rn_op 157 176 = some (.isub, 1, 0, 0, 0) := by decide +kernel
theorem op157_177 : rn_op 157 177 = some (.if_icmp .ne 7, 3, 0, 0, 0) := by decide +kernel
theorem op157_180 : rn_op 157 180 = some (.iconst 1, 1, 0, 0, 0) := by decide +kernel
theorem op157_181 : rn_op 157 181 = some (.goto 4, 3, 0, 0, 0) := by decide +kernel
theorem op157_184 : rn_op 157 184 = some (.iconst 0, 1, 0, 0, 0) := by decide +kernel
theorem op157_185 : rn_op 157 185 = some (.istore 6, 2, 0, 0, 0) := by decide +kernel
theorem op157_187 : rn_op 157 187 = some (.aload_n 0, 1, 0, 0, 0) := by decide +kernel
theorem op157_188 : rn_op 157 188 = some (.getfield 16, 3, 11, 4, 3) := by decide +kernel
theorem op157_191 : rn_op 157 191 = some (.iload 4, 2, 0, 0, 0) := by decide +kernel
theorem op157_193 : rn_op 157 193 = some (.iaload, 1, 0, 0, 0) := by decide +kernel
theorem op157_194 : rn_op 157 194 = some (.aload_n 0, 1, 0, 0, 0) := by decide +kernel
theorem op157_195 : rn_op 157 195 = some (.getfield 7, 3, 11, 0, 3) := by decide +kernel
theorem op157_198 : rn_op 157 198 = some (.iconst 1, 1, 0, 0, 0) := by decide +kernel
theorem op157_199 : rn_op 157 199 = some (.iaload, 1, 0, 0, 0) := by decide +kernel
theorem op157_200 : rn_op 157 200 = some (.irem, 1, 0, 0, 0) := by decide +kernel
theorem op157_201 : rn_op 157 201 = some (.ifCond .ne 18, 3, 0, 0, 0) := by decide +kernel
theorem op157_204 : rn_op 157 204 = some (.iload 6, 2, 0, 0, 0) := by decide +kernel
theorem op157_206 : rn_op 157 206 = some (.iload 5, 2, 0, 0, 0) := by decide +kernel
theorem op157_208 : rn_op 157 208 = some (.ifCond .ge 7, 3, 0, 0, 0) := by decide +kernel
theorem op157_211 : rn_op 157 211 = some (.iconst 1, 1, 0, 0, 0) := by decide +kernel
theorem op157_212 : rn_op 157 212 = some (.goto 4, 3, 0, 0, 0) := by decide +kernel
theorem op157_215 : rn_op 157 215 = some (.iconst 0, 1, 0, 0, 0) := by decide +kernel
theorem op157_216 : rn_op 157 216 = some (.if_icmp .eq 5, 3, 0, 0, 0) := by decide +kernel
theorem op157_219 : rn_op 157 219 = some (.iconst 0, 1, 0, 0, 0) := by decide +kernel
theorem op157_220 : rn_op 157 220 = some (.ireturn, 1, 0, 0, 0) := by decide +kernel
theorem op157_221 : rn_op 157 221 = some (.aload_n 0, 1, 0, 0, 0) := by decide +kernel
theorem op157_222 : rn_op 157 222 = some (.dup, 1, 0, 0, 0) := by decide +kernel
theorem op157_223 : rn_op 157 223 = some (.getfield 139, 3, 11, 3, 0) := by decide +kernel
theorem op157_226 : rn_op 157 226 = some (.iload 6, 2, 0, 0, 0) := by decide +kernel
theorem op157_228 : rn_op 157 228 = some (.ifCond .eq 7, 3, 0, 0, 0) := by decide +kernel
theorem op157_231 : rn_op 157 231 = some (.iconst 0, 1, 0, 0, 0) := by decide +kernel
theorem op157_232 : rn_op 157 232 = some (.goto 4, 3, 0, 0, 0) := by decide +kernel
theorem op157_235 : rn_op 157 235 = some (.iconst 1, 1, 0, 0, 0) := by decide +kernel
theorem op157_236 : rn_op 157 236 = some (.iadd, 1, 0, 0, 0) := by decide +kernel
theorem op157_237 : rn_op 157 237 = some (.putfield 139, 3, 11, 3, 0) := by decide +kernel
theorem op157_240 : rn_op 157 240 = some (.iinc 4 1, 3, 0, 0, 0) := by decide +kernel
theorem op157_243 : rn_op 157 243 = some (.goto (-224), 3, 0, 0, 0) := by decide +kernel
theorem op157_246 : rn_op 157 246 = some (.iload_n 2, 1, 0, 0, 0) := by decide +kernel
theorem op157_247 : rn_op 157 247 = some (.aload_n 0, 1, 0, 0, 0) := by decide +kernel
theorem op157_248 : rn_op 157 248 = some (.invokevirtual 167, 3, 155, 1, 11) := by decide +kernel
theorem op157_251 : rn_op 157 251 = some (.if_icmp .ne 7, 3, 0, 0, 0) := by decide +kernel
theorem op157_254 : rn_op 157 254 = some (.iconst 1, 1, 0, 0, 0) := by decide +kernel
theorem op157_255 : rn_op 157 255 = some (.goto 4, 3, 0, 0, 0) := by decide +kernel
theorem op157_258 : rn_op 157 258 = some (.iconst 0, 1, 0, 0, 0) := by decide +kernel
theorem op157_259 : rn_op 157 259 = some (.ireturn, 1, 0, 0, 0) := by decide +kernel
def mo_readTable_l44 (a4 : Int32) : Nat → Int32 → Int32 → Int32 → Int32 → rn_Mem → Option ((Int32 × rn_Mem) ⊕ (Int32 × Int32 × Int32 × Int32 × rn_Mem))
  | 0, _, _, _, _, _ => none
  | n + 1, a1, a2, a3, a5, m =>
    if a5 < 0 then
      some (.inr (a1, a2, a3, a5, m))
    else
      if a5 = 59 then
        some (.inr (a1, a2, a3, a5, m))
      else
        (mo_size n m).bind fun (r12, m11) =>
        if a2 = r12 then
          some (.inl (0, m11))
        else
          if a5 = 63 then
            if a3 = 3 then
              some (.inl (0, m11))
            else
              (some (a3 + 1)).bind fun (x25 : Int32) =>
              (some (rm_i m11 115 3 ((m11.1 115 3) + 1))).bind fun (m26 : rn_Mem) =>
              if rn_in a4 64 = true then
                if rn_in (((4 : Int32) + ((12 : Int32) * a4)) + (m26.1 118 a4.toNatClampNeg)) 64 = true then
                  (some (rm_i m26 118 (((4 : Int32) + ((12 : Int32) * a4)) + (m26.1 118 a4.toNatClampNeg)).toNatClampNeg (-1))).bind fun (m28 : rn_Mem) =>
                  if rn_in a4 64 = true then
                    if rn_in a4 64 = true then
                      (some (rm_i m28 118 a4.toNatClampNeg ((m28.1 118 a4.toNatClampNeg) + 1))).bind fun (m31 : rn_Mem) =>
                      (some (a2 + 1)).bind fun (x33 : Int32) =>
                      (mo_nextByte n m31).bind fun (r35, m34) =>
                      mo_readTable_l44 a4 n a1 x33 x25 r35 m34
                    else none
                  else none
                else none
              else none
          else
            (mo_readCard n a1 m11).bind fun (r38, m37) =>
            if r38 < 0 then
              some (.inl (0, m37))
            else
              (some (a1 &&& (((1 : Int32) <<< (r38 &&& 31)) ^^^ (-1)))).bind fun (x41 : Int32) =>
              if rn_in a4 64 = true then
                if rn_in (((4 : Int32) + ((12 : Int32) * a4)) + (m37.1 118 a4.toNatClampNeg)) 64 = true then
                  (some (rm_i m37 118 (((4 : Int32) + ((12 : Int32) * a4)) + (m37.1 118 a4.toNatClampNeg)).toNatClampNeg r38)).bind fun (m43 : rn_Mem) =>
                  if rn_in a4 64 = true then
                    if rn_in a4 64 = true then
                      (some (rm_i m43 118 a4.toNatClampNeg ((m43.1 118 a4.toNatClampNeg) + 1))).bind fun (m46 : rn_Mem) =>
                      (some (a2 + 1)).bind fun (x48 : Int32) =>
                      (mo_nextByte n m46).bind fun (r50, m49) =>
                      mo_readTable_l44 a4 n x41 x48 a3 r50 m49
                    else none
                  else none
                else none
              else none
def mo_readTable_l19  : Nat → Int32 → Int32 → Int32 → Int32 → rn_Mem → Option ((Int32 × rn_Mem) ⊕ (Int32 × rn_Mem))
  | 0, _, _, _, _, _ => none
  | n + 1, a1, a2, a3, a4, m =>
    if a4 < (m.1 116 1) then
      if rn_in a4 64 = true then
        (some (rm_i m 118 a4.toNatClampNeg 0)).bind fun (m4 : rn_Mem) =>
        (mo_nextByte n m4).bind fun (r7, m6) =>
        (mo_readTable_l44 a4 n a1 a2 a3 r7 m6).bind fun q => match q with
        | .inl o => some (.inl o)
        | .inr (x53, x54, x55, x56, m52) =>
        (show Option (Int32) from
          if a4 = ((m52.1 116 1) - 1) then
            some (1)
          else
            some (0)).bind fun x60 =>
        if rn_in a4 64 = true then
          if ¬ (m52.1 116 1) = 0 then
            if (rn_rem (m52.1 118 a4.toNatClampNeg) (m52.1 116 1)) = 0 then
              (show Option (Int32) from
                if x56 < 0 then
                  some (1)
                else
                  some (0)).bind fun x66 =>
              if x60 = x66 then
                (show Option (Int32) from
                  if x60 = 0 then
                    some (1)
                  else
                    some (0)).bind fun x71 =>
                (some (rm_i m52 115 3 ((m52.1 115 3) + x71))).bind fun (m72 : rn_Mem) =>
                (some (a4 + 1)).bind fun (x73 : Int32) =>
                mo_readTable_l19 n x53 x54 x55 x73 m72
              else
                some (.inl (0, m52))
            else
              some (.inl (0, m52))
          else none
        else none
      else none
    else
      some (.inr (a2, m))
def mo_readTable (n : Nat)  (m : rn_Mem) : Option (Int32 × rn_Mem) :=
  (some (rm_i m 115 3 0)).bind fun (m1 : rn_Mem) =>
  (some (m1.1 116 3)).bind fun (x2 : Int32) =>
  (mo_readTable_l19 n x2 0 0 0 m1).bind fun q => match q with
  | .inl o => some o
  | .inr (x80, m78) =>
  (mo_size n m78).bind fun (r86, m85) =>
  if x80 = r86 then
    some (1, m85)
  else
    some (0, m85)
set_option maxHeartbeats 4000000 in
set_option maxRecDepth 20000 in
theorem mo_readTable_l44_ok (xs : List Int32) {d : Nat} (hd : 3 ≤ d + 1) {a4 : Int32} {r : Option Value} {τ : rn_H} {out : (Int32 × rn_Mem) ⊕ (Int32 × Int32 × Int32 × Int32 × rn_Mem)} (hl : ∀ (rO : Int32) (mO : rn_Mem), out = .inl (rO, mO) → r = (some (.int rO)) ∧ τ = (rn_SH, mO)) (hr : ∀ (z1 : Int32) (z2 : Int32) (z3 : Int32) (z5 : Int32) (mO : rn_Mem), out = .inr (z1, z2, z3, z5, mO) → ∀ (o6 : Option Value), rn_R xs (d + 1) 157 167 [some (.ref 115), some (.int z1), some (.int z2), some (.int z3), some (.int a4), some (.int z5), o6] [] (rn_SH, mO) r τ) : ∀ (n : Nat) (a1 : Int32) (a2 : Int32) (a3 : Int32) (a5 : Int32) (o6 : Option Value) (m : rn_Mem), mo_readTable_l44 a4 n a1 a2 a3 a5 m = some out → rn_R xs (d + 1) 157 44 [some (.ref 115), some (.int a1), some (.int a2), some (.int a3), some (.int a4), some (.int a5), o6] [] (rn_SH, m) r τ := by
  intro n
  induction n with
  | zero =>
    intro _ _ _ _ _ _ h
    cases h
  | succ n ih =>
    intro a1 a2 a3 a5 o6 m h
    unfold mo_readTable_l44 at h
    try dsimp only at h
    refine rx_p (L2 := [some (.ref 115), some (.int a1), some (.int a2), some (.int a3), some (.int a4), some (.int a5), o6]) (S2 := [.int a5]) (pc2 := 46) op157_44 rfl rfl ?_
    refine ry_if_lt (tgt := 167) (pc2 := 49) op157_46 (by decide) (by decide) rfl (fun b9 => ?_) (fun b9 => ?_)
    · have h := (if_pos b9).symm.trans h
      cases h
      exact hr _ _ _ _ _ rfl _
    · have h := (if_neg b9).symm.trans h
      refine rx_p (L2 := [some (.ref 115), some (.int a1), some (.int a2), some (.int a3), some (.int a4), some (.int a5), o6]) (S2 := [.int a5]) (pc2 := 51) op157_49 rfl rfl ?_
      refine rx_bp (v := 59) (pc2 := 53) op157_51 (by decide) rfl ?_
      refine ry_ic_eq (tgt := 167) (pc2 := 56) op157_53 (by decide) (by decide) rfl (fun b10 => ?_) (fun b10 => ?_)
      · have h := (if_pos b10).symm.trans h
        cases h
        exact hr _ _ _ _ _ rfl _
      · have h := (if_neg b10).symm.trans h
        refine rx_p (L2 := [some (.ref 115), some (.int a1), some (.int a2), some (.int a3), some (.int a4), some (.int a5), o6]) (S2 := [.int a2]) (pc2 := 57) op157_56 rfl rfl ?_
        refine rx_p (L2 := [some (.ref 115), some (.int a1), some (.int a2), some (.int a3), some (.int a4), some (.int a5), o6]) (S2 := [.ref 115, .int a2]) (pc2 := 58) op157_57 rfl rfl ?_
        obtain ⟨⟨r12, m11⟩, f13, h⟩ := rq_bind h
        try dsimp only at h
        refine ry_iv (p := 115) (vs := []) (T := [.int a2]) (pc2 := 61) op157_58 ms_155 (by decide) rfl rfl (Nat.le_of_ble_eq_true rfl) (Nat.le_of_ble_eq_true rfl) sp_115 (mo_size_ok xs (by omega)  f13) rfl ?_
        show rn_R _ _ _ _ _ [.int r12, .int a2] _ _ _
        refine ry_ic_ne (tgt := 66) (pc2 := 64) op157_61 (by decide) (by decide) rfl (fun b14 => ?_) (fun b14 => ?_)
        · have h := (if_pos b14).symm.trans h
          refine rx_ic (v := 0) (pc2 := 65) op157_64 (by decide) rfl ?_
          cases h
          obtain ⟨rfl, rfl⟩ := hl _ _ rfl
          exact ry_rz (x := 0) op157_65 ms_157 rfl (by decide)
        · have h := (if_neg b14).symm.trans h
          refine rx_ic (v := (-1)) (pc2 := 67) op157_66 (by decide) rfl ?_
          refine rx_s (L2 := [some (.ref 115), some (.int a1), some (.int a2), some (.int a3), some (.int a4), some (.int a5), some (.int (-1))]) (pc2 := 69) op157_67 rfl rfl rfl ?_
          refine rx_p (L2 := [some (.ref 115), some (.int a1), some (.int a2), some (.int a3), some (.int a4), some (.int a5), some (.int (-1))]) (S2 := [.int a5]) (pc2 := 71) op157_69 rfl rfl ?_
          refine rx_bp (v := 63) (pc2 := 73) op157_71 (by decide) rfl ?_
          refine ry_ic_ne (tgt := 99) (pc2 := 76) op157_73 (by decide) (by decide) rfl (fun b15 => ?_) (fun b15 => ?_)
          · have h := (if_pos b15).symm.trans h
            refine rx_p (L2 := [some (.ref 115), some (.int a1), some (.int a2), some (.int a3), some (.int a4), some (.int a5), some (.int (-1))]) (S2 := [.int a3]) (pc2 := 77) op157_76 rfl rfl ?_
            refine rx_ic (v := 3) (pc2 := 78) op157_77 (by decide) rfl ?_
            refine ry_ic_ne (tgt := 83) (pc2 := 81) op157_78 (by decide) (by decide) rfl (fun b24 => ?_) (fun b24 => ?_)
            · have h := (if_pos b24).symm.trans h
              refine rx_ic (v := 0) (pc2 := 82) op157_81 (by decide) rfl ?_
              cases h
              obtain ⟨rfl, rfl⟩ := hl _ _ rfl
              exact ry_rz (x := 0) op157_82 ms_157 rfl (by decide)
            · have h := (if_neg b24).symm.trans h
              obtain ⟨x25, ex25, h⟩ := rq_bv h
              refine rx_inc (w := 1) (v := x25) (L2 := [some (.ref 115), some (.int a1), some (.int a2), some (.int x25), some (.int a4), some (.int a5), some (.int (-1))]) (pc2 := 86) op157_83 rfl (by decide) ex25 rfl rfl ?_
              refine rx_p (L2 := [some (.ref 115), some (.int a1), some (.int a2), some (.int x25), some (.int a4), some (.int a5), some (.int (-1))]) (S2 := [.ref 115]) (pc2 := 87) op157_86 rfl rfl ?_
              refine rx_p (L2 := [some (.ref 115), some (.int a1), some (.int a2), some (.int x25), some (.int a4), some (.int a5), some (.int (-1))]) (S2 := [.ref 115, .ref 115]) (pc2 := 88) op157_87 rfl rfl ?_
              refine rx_gf (v := .int (m11.1 115 3)) (pc2 := 91) op157_88 sp_115 rfl rfl rfl ?_
              refine rx_ic (v := 1) (pc2 := 92) op157_91 (by decide) rfl ?_
              refine rx_p (L2 := [some (.ref 115), some (.int a1), some (.int a2), some (.int x25), some (.int a4), some (.int a5), some (.int (-1))]) (S2 := [.int ((m11.1 115 3) + 1), .ref 115]) (pc2 := 93) op157_92 rfl rfl ?_
              obtain ⟨m26, em26, h⟩ := rq_bv h
              refine rx_pf (m2 := m26) (pc2 := 96) op157_93 sp_115 rfl em26 rfl ?_
              refine ry_go (tgt := 122) op157_96 (by decide) (by decide) ?_
              refine rx_p (L2 := [some (.ref 115), some (.int a1), some (.int a2), some (.int x25), some (.int a4), some (.int a5), some (.int (-1))]) (S2 := [.ref 115]) (pc2 := 123) op157_122 rfl rfl ?_
              refine rx_gf (v := .ref 118) (pc2 := 126) op157_123 sp_115 rfl rfl rfl ?_
              refine rx_ic (v := 4) (pc2 := 127) op157_126 (by decide) rfl ?_
              refine rx_bp (v := 12) (pc2 := 129) op157_127 (by decide) rfl ?_
              refine rx_p (L2 := [some (.ref 115), some (.int a1), some (.int a2), some (.int x25), some (.int a4), some (.int a5), some (.int (-1))]) (S2 := [.int a4, .int 12, .int 4, .ref 118]) (pc2 := 131) op157_129 rfl rfl ?_
              refine rx_p (L2 := [some (.ref 115), some (.int a1), some (.int a2), some (.int x25), some (.int a4), some (.int a5), some (.int (-1))]) (S2 := [.int ((12 : Int32) * a4), .int 4, .ref 118]) (pc2 := 132) op157_131 rfl rfl ?_
              refine rx_p (L2 := [some (.ref 115), some (.int a1), some (.int a2), some (.int x25), some (.int a4), some (.int a5), some (.int (-1))]) (S2 := [.int ((4 : Int32) + ((12 : Int32) * a4)), .ref 118]) (pc2 := 133) op157_132 rfl rfl ?_
              refine rx_p (L2 := [some (.ref 115), some (.int a1), some (.int a2), some (.int x25), some (.int a4), some (.int a5), some (.int (-1))]) (S2 := [.ref 115, .int ((4 : Int32) + ((12 : Int32) * a4)), .ref 118]) (pc2 := 134) op157_133 rfl rfl ?_
              refine rx_gf (v := .ref 118) (pc2 := 137) op157_134 sp_115 rfl rfl rfl ?_
              refine rx_p (L2 := [some (.ref 115), some (.int a1), some (.int a2), some (.int x25), some (.int a4), some (.int a5), some (.int (-1))]) (S2 := [.int a4, .ref 118, .int ((4 : Int32) + ((12 : Int32) * a4)), .ref 118]) (pc2 := 139) op157_137 rfl rfl ?_
              obtain ⟨k27, h⟩ := rq_chk h
              refine rx_ia (pc2 := 140) op157_139 (rn_shlt sp_118) sp_118 k27 rfl rfl ?_
              refine rx_p (L2 := [some (.ref 115), some (.int a1), some (.int a2), some (.int x25), some (.int a4), some (.int a5), some (.int (-1))]) (S2 := [.int (((4 : Int32) + ((12 : Int32) * a4)) + (m26.1 118 a4.toNatClampNeg)), .ref 118]) (pc2 := 141) op157_140 rfl rfl ?_
              refine rx_p (L2 := [some (.ref 115), some (.int a1), some (.int a2), some (.int x25), some (.int a4), some (.int a5), some (.int (-1))]) (S2 := [.int (-1), .int (((4 : Int32) + ((12 : Int32) * a4)) + (m26.1 118 a4.toNatClampNeg)), .ref 118]) (pc2 := 143) op157_141 rfl rfl ?_
              obtain ⟨k29, h⟩ := rq_chk h
              obtain ⟨m28, em28, h⟩ := rq_bv h
              refine rx_is (m2 := m28) (pc2 := 144) op157_143 sp_118 k29 rfl em28 rfl ?_
              refine rx_p (L2 := [some (.ref 115), some (.int a1), some (.int a2), some (.int x25), some (.int a4), some (.int a5), some (.int (-1))]) (S2 := [.ref 115]) (pc2 := 145) op157_144 rfl rfl ?_
              refine rx_gf (v := .ref 118) (pc2 := 148) op157_145 sp_115 rfl rfl rfl ?_
              refine rx_p (L2 := [some (.ref 115), some (.int a1), some (.int a2), some (.int x25), some (.int a4), some (.int a5), some (.int (-1))]) (S2 := [.int a4, .ref 118]) (pc2 := 150) op157_148 rfl rfl ?_
              refine rx_p (L2 := [some (.ref 115), some (.int a1), some (.int a2), some (.int x25), some (.int a4), some (.int a5), some (.int (-1))]) (S2 := [.int a4, .ref 118, .int a4, .ref 118]) (pc2 := 151) op157_150 rfl rfl ?_
              obtain ⟨k30, h⟩ := rq_chk h
              refine rx_ia (pc2 := 152) op157_151 (rn_shlt sp_118) sp_118 k30 rfl rfl ?_
              refine rx_ic (v := 1) (pc2 := 153) op157_152 (by decide) rfl ?_
              refine rx_p (L2 := [some (.ref 115), some (.int a1), some (.int a2), some (.int x25), some (.int a4), some (.int a5), some (.int (-1))]) (S2 := [.int ((m28.1 118 a4.toNatClampNeg) + 1), .int a4, .ref 118]) (pc2 := 154) op157_153 rfl rfl ?_
              obtain ⟨k32, h⟩ := rq_chk h
              obtain ⟨m31, em31, h⟩ := rq_bv h
              refine rx_is (m2 := m31) (pc2 := 155) op157_154 sp_118 k32 rfl em31 rfl ?_
              obtain ⟨x33, ex33, h⟩ := rq_bv h
              refine rx_inc (w := 1) (v := x33) (L2 := [some (.ref 115), some (.int a1), some (.int x33), some (.int x25), some (.int a4), some (.int a5), some (.int (-1))]) (pc2 := 158) op157_155 rfl (by decide) ex33 rfl rfl ?_
              refine rx_p (L2 := [some (.ref 115), some (.int a1), some (.int x33), some (.int x25), some (.int a4), some (.int a5), some (.int (-1))]) (S2 := [.ref 115]) (pc2 := 159) op157_158 rfl rfl ?_
              obtain ⟨⟨r35, m34⟩, f36, h⟩ := rq_bind h
              try dsimp only at h
              refine ry_iv (p := 115) (vs := []) (T := []) (pc2 := 162) op157_159 ms_152 (by decide) rfl rfl (Nat.le_of_ble_eq_true rfl) (Nat.le_of_ble_eq_true rfl) sp_115 (mo_nextByte_ok xs (by omega)  f36) rfl ?_
              show rn_R _ _ _ _ _ [.int r35] _ _ _
              refine rx_s (L2 := [some (.ref 115), some (.int a1), some (.int x33), some (.int x25), some (.int a4), some (.int r35), some (.int (-1))]) (pc2 := 164) op157_162 rfl rfl rfl ?_
              refine ry_go (tgt := 44) op157_164 (by decide) (by decide) ?_
              exact ih _ _ _ _ _ _ h
          · have h := (if_neg b15).symm.trans h
            refine rx_p (L2 := [some (.ref 115), some (.int a1), some (.int a2), some (.int a3), some (.int a4), some (.int a5), some (.int (-1))]) (S2 := [.ref 115]) (pc2 := 100) op157_99 rfl rfl ?_
            refine rx_p (L2 := [some (.ref 115), some (.int a1), some (.int a2), some (.int a3), some (.int a4), some (.int a5), some (.int (-1))]) (S2 := [.int a1, .ref 115]) (pc2 := 101) op157_100 rfl rfl ?_
            obtain ⟨⟨r38, m37⟩, f39, h⟩ := rq_bind h
            try dsimp only at h
            refine ry_iv (p := 115) (vs := [.int a1]) (T := []) (pc2 := 104) op157_101 ms_153 (by decide) rfl rfl (Nat.le_of_ble_eq_true rfl) (Nat.le_of_ble_eq_true rfl) sp_115 (mo_readCard_ok xs (by omega)  f39) rfl ?_
            show rn_R _ _ _ _ _ [.int r38] _ _ _
            refine rx_s (L2 := [some (.ref 115), some (.int a1), some (.int a2), some (.int a3), some (.int a4), some (.int a5), some (.int r38)]) (pc2 := 106) op157_104 rfl rfl rfl ?_
            refine rx_p (L2 := [some (.ref 115), some (.int a1), some (.int a2), some (.int a3), some (.int a4), some (.int a5), some (.int r38)]) (S2 := [.int r38]) (pc2 := 108) op157_106 rfl rfl ?_
            refine ry_if_ge (tgt := 113) (pc2 := 111) op157_108 (by decide) (by decide) rfl (fun b40 => ?_) (fun b40 => ?_)
            · have h := (if_pos b40).symm.trans h
              refine rx_ic (v := 0) (pc2 := 112) op157_111 (by decide) rfl ?_
              cases h
              obtain ⟨rfl, rfl⟩ := hl _ _ rfl
              exact ry_rz (x := 0) op157_112 ms_157 rfl (by decide)
            · have h := (if_neg b40).symm.trans h
              refine rx_p (L2 := [some (.ref 115), some (.int a1), some (.int a2), some (.int a3), some (.int a4), some (.int a5), some (.int r38)]) (S2 := [.int a1]) (pc2 := 114) op157_113 rfl rfl ?_
              refine rx_ic (v := 1) (pc2 := 115) op157_114 (by decide) rfl ?_
              refine rx_p (L2 := [some (.ref 115), some (.int a1), some (.int a2), some (.int a3), some (.int a4), some (.int a5), some (.int r38)]) (S2 := [.int r38, .int 1, .int a1]) (pc2 := 117) op157_115 rfl rfl ?_
              refine rx_p (L2 := [some (.ref 115), some (.int a1), some (.int a2), some (.int a3), some (.int a4), some (.int a5), some (.int r38)]) (S2 := [.int ((1 : Int32) <<< (r38 &&& 31)), .int a1]) (pc2 := 118) op157_117 rfl rfl ?_
              refine rx_ic (v := (-1)) (pc2 := 119) op157_118 (by decide) rfl ?_
              refine rx_p (L2 := [some (.ref 115), some (.int a1), some (.int a2), some (.int a3), some (.int a4), some (.int a5), some (.int r38)]) (S2 := [.int (((1 : Int32) <<< (r38 &&& 31)) ^^^ (-1)), .int a1]) (pc2 := 120) op157_119 rfl rfl ?_
              refine rx_p (L2 := [some (.ref 115), some (.int a1), some (.int a2), some (.int a3), some (.int a4), some (.int a5), some (.int r38)]) (S2 := [.int (a1 &&& (((1 : Int32) <<< (r38 &&& 31)) ^^^ (-1)))]) (pc2 := 121) op157_120 rfl rfl ?_
              obtain ⟨x41, ex41, h⟩ := rq_bv h
              refine rx_s (v := x41) (L2 := [some (.ref 115), some (.int x41), some (.int a2), some (.int a3), some (.int a4), some (.int a5), some (.int r38)]) (pc2 := 122) op157_121 ex41 rfl rfl ?_
              refine rx_p (L2 := [some (.ref 115), some (.int x41), some (.int a2), some (.int a3), some (.int a4), some (.int a5), some (.int r38)]) (S2 := [.ref 115]) (pc2 := 123) op157_122 rfl rfl ?_
              refine rx_gf (v := .ref 118) (pc2 := 126) op157_123 sp_115 rfl rfl rfl ?_
              refine rx_ic (v := 4) (pc2 := 127) op157_126 (by decide) rfl ?_
              refine rx_bp (v := 12) (pc2 := 129) op157_127 (by decide) rfl ?_
              refine rx_p (L2 := [some (.ref 115), some (.int x41), some (.int a2), some (.int a3), some (.int a4), some (.int a5), some (.int r38)]) (S2 := [.int a4, .int 12, .int 4, .ref 118]) (pc2 := 131) op157_129 rfl rfl ?_
              refine rx_p (L2 := [some (.ref 115), some (.int x41), some (.int a2), some (.int a3), some (.int a4), some (.int a5), some (.int r38)]) (S2 := [.int ((12 : Int32) * a4), .int 4, .ref 118]) (pc2 := 132) op157_131 rfl rfl ?_
              refine rx_p (L2 := [some (.ref 115), some (.int x41), some (.int a2), some (.int a3), some (.int a4), some (.int a5), some (.int r38)]) (S2 := [.int ((4 : Int32) + ((12 : Int32) * a4)), .ref 118]) (pc2 := 133) op157_132 rfl rfl ?_
              refine rx_p (L2 := [some (.ref 115), some (.int x41), some (.int a2), some (.int a3), some (.int a4), some (.int a5), some (.int r38)]) (S2 := [.ref 115, .int ((4 : Int32) + ((12 : Int32) * a4)), .ref 118]) (pc2 := 134) op157_133 rfl rfl ?_
              refine rx_gf (v := .ref 118) (pc2 := 137) op157_134 sp_115 rfl rfl rfl ?_
              refine rx_p (L2 := [some (.ref 115), some (.int x41), some (.int a2), some (.int a3), some (.int a4), some (.int a5), some (.int r38)]) (S2 := [.int a4, .ref 118, .int ((4 : Int32) + ((12 : Int32) * a4)), .ref 118]) (pc2 := 139) op157_137 rfl rfl ?_
              obtain ⟨k42, h⟩ := rq_chk h
              refine rx_ia (pc2 := 140) op157_139 (rn_shlt sp_118) sp_118 k42 rfl rfl ?_
              refine rx_p (L2 := [some (.ref 115), some (.int x41), some (.int a2), some (.int a3), some (.int a4), some (.int a5), some (.int r38)]) (S2 := [.int (((4 : Int32) + ((12 : Int32) * a4)) + (m37.1 118 a4.toNatClampNeg)), .ref 118]) (pc2 := 141) op157_140 rfl rfl ?_
              refine rx_p (L2 := [some (.ref 115), some (.int x41), some (.int a2), some (.int a3), some (.int a4), some (.int a5), some (.int r38)]) (S2 := [.int r38, .int (((4 : Int32) + ((12 : Int32) * a4)) + (m37.1 118 a4.toNatClampNeg)), .ref 118]) (pc2 := 143) op157_141 rfl rfl ?_
              obtain ⟨k44, h⟩ := rq_chk h
              obtain ⟨m43, em43, h⟩ := rq_bv h
              refine rx_is (m2 := m43) (pc2 := 144) op157_143 sp_118 k44 rfl em43 rfl ?_
              refine rx_p (L2 := [some (.ref 115), some (.int x41), some (.int a2), some (.int a3), some (.int a4), some (.int a5), some (.int r38)]) (S2 := [.ref 115]) (pc2 := 145) op157_144 rfl rfl ?_
              refine rx_gf (v := .ref 118) (pc2 := 148) op157_145 sp_115 rfl rfl rfl ?_
              refine rx_p (L2 := [some (.ref 115), some (.int x41), some (.int a2), some (.int a3), some (.int a4), some (.int a5), some (.int r38)]) (S2 := [.int a4, .ref 118]) (pc2 := 150) op157_148 rfl rfl ?_
              refine rx_p (L2 := [some (.ref 115), some (.int x41), some (.int a2), some (.int a3), some (.int a4), some (.int a5), some (.int r38)]) (S2 := [.int a4, .ref 118, .int a4, .ref 118]) (pc2 := 151) op157_150 rfl rfl ?_
              obtain ⟨k45, h⟩ := rq_chk h
              refine rx_ia (pc2 := 152) op157_151 (rn_shlt sp_118) sp_118 k45 rfl rfl ?_
              refine rx_ic (v := 1) (pc2 := 153) op157_152 (by decide) rfl ?_
              refine rx_p (L2 := [some (.ref 115), some (.int x41), some (.int a2), some (.int a3), some (.int a4), some (.int a5), some (.int r38)]) (S2 := [.int ((m43.1 118 a4.toNatClampNeg) + 1), .int a4, .ref 118]) (pc2 := 154) op157_153 rfl rfl ?_
              obtain ⟨k47, h⟩ := rq_chk h
              obtain ⟨m46, em46, h⟩ := rq_bv h
              refine rx_is (m2 := m46) (pc2 := 155) op157_154 sp_118 k47 rfl em46 rfl ?_
              obtain ⟨x48, ex48, h⟩ := rq_bv h
              refine rx_inc (w := 1) (v := x48) (L2 := [some (.ref 115), some (.int x41), some (.int x48), some (.int a3), some (.int a4), some (.int a5), some (.int r38)]) (pc2 := 158) op157_155 rfl (by decide) ex48 rfl rfl ?_
              refine rx_p (L2 := [some (.ref 115), some (.int x41), some (.int x48), some (.int a3), some (.int a4), some (.int a5), some (.int r38)]) (S2 := [.ref 115]) (pc2 := 159) op157_158 rfl rfl ?_
              obtain ⟨⟨r50, m49⟩, f51, h⟩ := rq_bind h
              try dsimp only at h
              refine ry_iv (p := 115) (vs := []) (T := []) (pc2 := 162) op157_159 ms_152 (by decide) rfl rfl (Nat.le_of_ble_eq_true rfl) (Nat.le_of_ble_eq_true rfl) sp_115 (mo_nextByte_ok xs (by omega)  f51) rfl ?_
              show rn_R _ _ _ _ _ [.int r50] _ _ _
              refine rx_s (L2 := [some (.ref 115), some (.int x41), some (.int x48), some (.int a3), some (.int a4), some (.int r50), some (.int r38)]) (pc2 := 164) op157_162 rfl rfl rfl ?_
              refine ry_go (tgt := 44) op157_164 (by decide) (by decide) ?_
              exact ih _ _ _ _ _ _ h
set_option maxHeartbeats 4000000 in
set_option maxRecDepth 20000 in
theorem mo_readTable_l19_ok (xs : List Int32) {d : Nat} (hd : 3 ≤ d + 1) {r : Option Value} {τ : rn_H} {out : (Int32 × rn_Mem) ⊕ (Int32 × rn_Mem)} (hl : ∀ (rO : Int32) (mO : rn_Mem), out = .inl (rO, mO) → r = (some (.int rO)) ∧ τ = (rn_SH, mO)) (hr : ∀ (z2 : Int32) (mO : rn_Mem), out = .inr (z2, mO) → ∀ (o1 o3 o4 o5 o6 : Option Value), rn_R xs (d + 1) 157 246 [some (.ref 115), o1, some (.int z2), o3, o4, o5, o6] [] (rn_SH, mO) r τ) : ∀ (n : Nat) (a1 : Int32) (a2 : Int32) (a3 : Int32) (a4 : Int32) (o5 o6 : Option Value) (m : rn_Mem), mo_readTable_l19 n a1 a2 a3 a4 m = some out → rn_R xs (d + 1) 157 19 [some (.ref 115), some (.int a1), some (.int a2), some (.int a3), some (.int a4), o5, o6] [] (rn_SH, m) r τ := by
  intro n
  induction n with
  | zero =>
    intro _ _ _ _ _ _ _ h
    cases h
  | succ n ih =>
    intro a1 a2 a3 a4 o5 o6 m h
    unfold mo_readTable_l19 at h
    try dsimp only at h
    refine rx_p (L2 := [some (.ref 115), some (.int a1), some (.int a2), some (.int a3), some (.int a4), o5, o6]) (S2 := [.int a4]) (pc2 := 21) op157_19 rfl rfl ?_
    refine rx_p (L2 := [some (.ref 115), some (.int a1), some (.int a2), some (.int a3), some (.int a4), o5, o6]) (S2 := [.ref 115, .int a4]) (pc2 := 22) op157_21 rfl rfl ?_
    refine rx_gf (v := .ref 116) (pc2 := 25) op157_22 sp_115 rfl rfl rfl ?_
    refine rx_ic (v := 1) (pc2 := 26) op157_25 (by decide) rfl ?_
    refine rx_ia (j := 1) (pc2 := 27) op157_26 (rn_shlt sp_116) sp_116 (by decide) (by decide) rfl ?_
    refine ry_ic_ge (tgt := 246) (pc2 := 30) op157_27 (by decide) (by decide) rfl (fun b3 => ?_) (fun b3 => ?_)
    · have h := (if_pos b3).symm.trans h
      refine rx_p (L2 := [some (.ref 115), some (.int a1), some (.int a2), some (.int a3), some (.int a4), o5, o6]) (S2 := [.ref 115]) (pc2 := 31) op157_30 rfl rfl ?_
      refine rx_gf (v := .ref 118) (pc2 := 34) op157_31 sp_115 rfl rfl rfl ?_
      refine rx_p (L2 := [some (.ref 115), some (.int a1), some (.int a2), some (.int a3), some (.int a4), o5, o6]) (S2 := [.int a4, .ref 118]) (pc2 := 36) op157_34 rfl rfl ?_
      refine rx_ic (v := 0) (pc2 := 37) op157_36 (by decide) rfl ?_
      obtain ⟨k5, h⟩ := rq_chk h
      obtain ⟨m4, em4, h⟩ := rq_bv h
      refine rx_is (m2 := m4) (pc2 := 38) op157_37 sp_118 k5 rfl em4 rfl ?_
      refine rx_p (L2 := [some (.ref 115), some (.int a1), some (.int a2), some (.int a3), some (.int a4), o5, o6]) (S2 := [.ref 115]) (pc2 := 39) op157_38 rfl rfl ?_
      obtain ⟨⟨r7, m6⟩, f8, h⟩ := rq_bind h
      try dsimp only at h
      refine ry_iv (p := 115) (vs := []) (T := []) (pc2 := 42) op157_39 ms_152 (by decide) rfl rfl (Nat.le_of_ble_eq_true rfl) (Nat.le_of_ble_eq_true rfl) sp_115 (mo_nextByte_ok xs (by omega)  f8) rfl ?_
      show rn_R _ _ _ _ _ [.int r7] _ _ _
      refine rx_s (L2 := [some (.ref 115), some (.int a1), some (.int a2), some (.int a3), some (.int a4), some (.int r7), o6]) (pc2 := 44) op157_42 rfl rfl rfl ?_
      obtain ⟨wf77, f77, h⟩ := rq_bind h
      refine mo_readTable_l44_ok xs hd (fun v0 m0 eq => ?_) (fun x53 x54 x55 x56 m52 eq => ?_) _ _ _ _ _ _ _  f77
      · subst eq
        try dsimp only at h
        cases h
        exact hl _ _ rfl
      · subst eq
        try dsimp only at h
        intro o57
        refine rx_p (L2 := [some (.ref 115), some (.int x53), some (.int x54), some (.int x55), some (.int a4), some (.int x56), o57]) (S2 := [.int a4]) (pc2 := 169) op157_167 rfl rfl ?_
        refine rx_p (L2 := [some (.ref 115), some (.int x53), some (.int x54), some (.int x55), some (.int a4), some (.int x56), o57]) (S2 := [.ref 115, .int a4]) (pc2 := 170) op157_169 rfl rfl ?_
        refine rx_gf (v := .ref 116) (pc2 := 173) op157_170 sp_115 rfl rfl rfl ?_
        refine rx_ic (v := 1) (pc2 := 174) op157_173 (by decide) rfl ?_
        refine rx_ia (j := 1) (pc2 := 175) op157_174 (rn_shlt sp_116) sp_116 (by decide) (by decide) rfl ?_
        refine rx_ic (v := 1) (pc2 := 176) op157_175 (by decide) rfl ?_
        refine rx_p (L2 := [some (.ref 115), some (.int x53), some (.int x54), some (.int x55), some (.int a4), some (.int x56), o57]) (S2 := [.int ((m52.1 116 1) - 1), .int a4]) (pc2 := 177) op157_176 rfl rfl ?_
        obtain ⟨x60, gc76, h⟩ := rq_bind h
        try dsimp only at h
        have c76 : ∀ (o59 : Option Value), rn_R xs (d + 1) 157 185 [some (.ref 115), some (.int x53), some (.int x54), some (.int x55), some (.int a4), some (.int x56), o59] [.int x60] (rn_SH, m52) r τ := by
          intro o59
          refine rx_s (L2 := [some (.ref 115), some (.int x53), some (.int x54), some (.int x55), some (.int a4), some (.int x56), some (.int x60)]) (pc2 := 187) op157_185 rfl rfl rfl ?_
          refine rx_p (L2 := [some (.ref 115), some (.int x53), some (.int x54), some (.int x55), some (.int a4), some (.int x56), some (.int x60)]) (S2 := [.ref 115]) (pc2 := 188) op157_187 rfl rfl ?_
          refine rx_gf (v := .ref 118) (pc2 := 191) op157_188 sp_115 rfl rfl rfl ?_
          refine rx_p (L2 := [some (.ref 115), some (.int x53), some (.int x54), some (.int x55), some (.int a4), some (.int x56), some (.int x60)]) (S2 := [.int a4, .ref 118]) (pc2 := 193) op157_191 rfl rfl ?_
          obtain ⟨k61, h⟩ := rq_chk h
          refine rx_ia (pc2 := 194) op157_193 (rn_shlt sp_118) sp_118 k61 rfl rfl ?_
          refine rx_p (L2 := [some (.ref 115), some (.int x53), some (.int x54), some (.int x55), some (.int a4), some (.int x56), some (.int x60)]) (S2 := [.ref 115, .int (m52.1 118 a4.toNatClampNeg)]) (pc2 := 195) op157_194 rfl rfl ?_
          refine rx_gf (v := .ref 116) (pc2 := 198) op157_195 sp_115 rfl rfl rfl ?_
          refine rx_ic (v := 1) (pc2 := 199) op157_198 (by decide) rfl ?_
          refine rx_ia (j := 1) (pc2 := 200) op157_199 (rn_shlt sp_116) sp_116 (by decide) (by decide) rfl ?_
          obtain ⟨k62, h⟩ := rq_chk h
          refine rx_rem (v := rn_rem (m52.1 118 a4.toNatClampNeg) (m52.1 116 1)) (pc2 := 201) op157_200 k62 rfl rfl ?_
          refine ry_if_ne (tgt := 219) (pc2 := 204) op157_201 (by decide) (by decide) rfl (fun b63 => ?_) (fun b63 => ?_)
          · have h := (if_pos b63).symm.trans h
            refine rx_p (L2 := [some (.ref 115), some (.int x53), some (.int x54), some (.int x55), some (.int a4), some (.int x56), some (.int x60)]) (S2 := [.int x60]) (pc2 := 206) op157_204 rfl rfl ?_
            refine rx_p (L2 := [some (.ref 115), some (.int x53), some (.int x54), some (.int x55), some (.int a4), some (.int x56), some (.int x60)]) (S2 := [.int x56, .int x60]) (pc2 := 208) op157_206 rfl rfl ?_
            obtain ⟨x66, gc75, h⟩ := rq_bind h
            try dsimp only at h
            have c75 : ∀ (o65 : Option Value), rn_R xs (d + 1) 157 216 [some (.ref 115), some (.int x53), some (.int x54), some (.int x55), some (.int a4), o65, some (.int x60)] [.int x66, .int x60] (rn_SH, m52) r τ := by
              intro o65
              refine ry_ic_eq (tgt := 221) (pc2 := 219) op157_216 (by decide) (by decide) rfl (fun b67 => ?_) (fun b67 => ?_)
              · have h := (if_pos b67).symm.trans h
                refine rx_p (L2 := [some (.ref 115), some (.int x53), some (.int x54), some (.int x55), some (.int a4), o65, some (.int x60)]) (S2 := [.ref 115]) (pc2 := 222) op157_221 rfl rfl ?_
                refine rx_p (L2 := [some (.ref 115), some (.int x53), some (.int x54), some (.int x55), some (.int a4), o65, some (.int x60)]) (S2 := [.ref 115, .ref 115]) (pc2 := 223) op157_222 rfl rfl ?_
                refine rx_gf (v := .int (m52.1 115 3)) (pc2 := 226) op157_223 sp_115 rfl rfl rfl ?_
                refine rx_p (L2 := [some (.ref 115), some (.int x53), some (.int x54), some (.int x55), some (.int a4), o65, some (.int x60)]) (S2 := [.int x60, .int (m52.1 115 3), .ref 115]) (pc2 := 228) op157_226 rfl rfl ?_
                obtain ⟨x71, gc74, h⟩ := rq_bind h
                try dsimp only at h
                have c74 : ∀ (o69 o70 : Option Value), rn_R xs (d + 1) 157 236 [some (.ref 115), some (.int x53), some (.int x54), some (.int x55), some (.int a4), o69, o70] [.int x71, .int (m52.1 115 3), .ref 115] (rn_SH, m52) r τ := by
                  intro o69 o70
                  refine rx_p (L2 := [some (.ref 115), some (.int x53), some (.int x54), some (.int x55), some (.int a4), o69, o70]) (S2 := [.int ((m52.1 115 3) + x71), .ref 115]) (pc2 := 237) op157_236 rfl rfl ?_
                  obtain ⟨m72, em72, h⟩ := rq_bv h
                  refine rx_pf (m2 := m72) (pc2 := 240) op157_237 sp_115 rfl em72 rfl ?_
                  obtain ⟨x73, ex73, h⟩ := rq_bv h
                  refine rx_inc (w := 1) (v := x73) (L2 := [some (.ref 115), some (.int x53), some (.int x54), some (.int x55), some (.int x73), o69, o70]) (pc2 := 243) op157_240 rfl (by decide) ex73 rfl rfl ?_
                  refine ry_go (tgt := 19) op157_243 (by decide) (by decide) ?_
                  exact ih _ _ _ _ _ _ _ h
                refine ry_if_eq (tgt := 235) (pc2 := 231) op157_228 (by decide) (by decide) rfl (fun b68 => ?_) (fun b68 => ?_)
                · have gc74 := (if_pos b68).symm.trans gc74
                  refine rx_ic (v := 1) (pc2 := 236) op157_235 (by decide) rfl ?_
                  cases gc74
                  exact c74 _ _
                · have gc74 := (if_neg b68).symm.trans gc74
                  refine rx_ic (v := 0) (pc2 := 232) op157_231 (by decide) rfl ?_
                  refine ry_go (tgt := 236) op157_232 (by decide) (by decide) ?_
                  cases gc74
                  exact c74 _ _
              · have h := (if_neg b67).symm.trans h
                refine rx_ic (v := 0) (pc2 := 220) op157_219 (by decide) rfl ?_
                cases h
                obtain ⟨rfl, rfl⟩ := hl _ _ rfl
                exact ry_rz (x := 0) op157_220 ms_157 rfl (by decide)
            refine ry_if_ge (tgt := 215) (pc2 := 211) op157_208 (by decide) (by decide) rfl (fun b64 => ?_) (fun b64 => ?_)
            · have gc75 := (if_pos b64).symm.trans gc75
              refine rx_ic (v := 1) (pc2 := 212) op157_211 (by decide) rfl ?_
              refine ry_go (tgt := 216) op157_212 (by decide) (by decide) ?_
              cases gc75
              exact c75 _
            · have gc75 := (if_neg b64).symm.trans gc75
              refine rx_ic (v := 0) (pc2 := 216) op157_215 (by decide) rfl ?_
              cases gc75
              exact c75 _
          · have h := (if_neg b63).symm.trans h
            refine rx_ic (v := 0) (pc2 := 220) op157_219 (by decide) rfl ?_
            cases h
            obtain ⟨rfl, rfl⟩ := hl _ _ rfl
            exact ry_rz (x := 0) op157_220 ms_157 rfl (by decide)
        refine ry_ic_ne (tgt := 184) (pc2 := 180) op157_177 (by decide) (by decide) rfl (fun b58 => ?_) (fun b58 => ?_)
        · have gc76 := (if_pos b58).symm.trans gc76
          refine rx_ic (v := 1) (pc2 := 181) op157_180 (by decide) rfl ?_
          refine ry_go (tgt := 185) op157_181 (by decide) (by decide) ?_
          cases gc76
          exact c76 _
        · have gc76 := (if_neg b58).symm.trans gc76
          refine rx_ic (v := 0) (pc2 := 185) op157_184 (by decide) rfl ?_
          cases gc76
          exact c76 _
    · have h := (if_neg b3).symm.trans h
      cases h
      exact hr _ _ rfl _ _ _ _ _
set_option maxHeartbeats 4000000 in
set_option maxRecDepth 20000 in
theorem mo_readTable_ok (xs : List Int32) {d : Nat} (hd : 3 ≤ d) {n : Nat} {m mO : rn_Mem} {rO : Int32} (h : mo_readTable n  m = some (rO, mO)) : rn_R xs d 157 0 (rn_ent 7 [.ref 115]) [] (rn_SH, m) (some (.int rO)) (rn_SH, mO) := by
  obtain ⟨d, rfl⟩ : ∃ e, d = e + 1 := ⟨d - 1, by omega⟩
  unfold mo_readTable at h
  show rn_R xs (d + 1) 157 0 [some (.ref 115), none, none, none, none, none, none] [] (rn_SH, m) (some (.int rO)) (rn_SH, mO)
  refine rx_p (L2 := [some (.ref 115), none, none, none, none, none, none]) (S2 := [.ref 115]) (pc2 := 1) op157_0 rfl rfl ?_
  refine rx_ic (v := 0) (pc2 := 2) op157_1 (by decide) rfl ?_
  obtain ⟨m1, em1, h⟩ := rq_bv h
  refine rx_pf (m2 := m1) (pc2 := 5) op157_2 sp_115 rfl em1 rfl ?_
  refine rx_p (L2 := [some (.ref 115), none, none, none, none, none, none]) (S2 := [.ref 115]) (pc2 := 6) op157_5 rfl rfl ?_
  refine rx_gf (v := .ref 116) (pc2 := 9) op157_6 sp_115 rfl rfl rfl ?_
  refine rx_ic (v := 3) (pc2 := 10) op157_9 (by decide) rfl ?_
  refine rx_ia (j := 3) (pc2 := 11) op157_10 (rn_shlt sp_116) sp_116 (by decide) (by decide) rfl ?_
  obtain ⟨x2, ex2, h⟩ := rq_bv h
  refine rx_s (v := x2) (L2 := [some (.ref 115), some (.int x2), none, none, none, none, none]) (pc2 := 12) op157_11 ex2 rfl rfl ?_
  refine rx_ic (v := 0) (pc2 := 13) op157_12 (by decide) rfl ?_
  refine rx_s (L2 := [some (.ref 115), some (.int x2), some (.int 0), none, none, none, none]) (pc2 := 14) op157_13 rfl rfl rfl ?_
  refine rx_ic (v := 0) (pc2 := 15) op157_14 (by decide) rfl ?_
  refine rx_s (L2 := [some (.ref 115), some (.int x2), some (.int 0), some (.int 0), none, none, none]) (pc2 := 16) op157_15 rfl rfl rfl ?_
  refine rx_ic (v := 0) (pc2 := 17) op157_16 (by decide) rfl ?_
  refine rx_s (L2 := [some (.ref 115), some (.int x2), some (.int 0), some (.int 0), some (.int 0), none, none]) (pc2 := 19) op157_17 rfl rfl rfl ?_
  obtain ⟨wf89, f89, h⟩ := rq_bind h
  refine mo_readTable_l19_ok xs hd (fun v0 m0 eq => ?_) (fun x80 m78 eq => ?_) _ _ _ _ _ _ _ _  f89
  · subst eq
    try dsimp only at h
    cases h
    exact ⟨rfl, rfl⟩
  · subst eq
    try dsimp only at h
    intro o79 o81 o82 o83 o84
    refine rx_p (L2 := [some (.ref 115), o79, some (.int x80), o81, o82, o83, o84]) (S2 := [.int x80]) (pc2 := 247) op157_246 rfl rfl ?_
    refine rx_p (L2 := [some (.ref 115), o79, some (.int x80), o81, o82, o83, o84]) (S2 := [.ref 115, .int x80]) (pc2 := 248) op157_247 rfl rfl ?_
    obtain ⟨⟨r86, m85⟩, f87, h⟩ := rq_bind h
    try dsimp only at h
    refine ry_iv (p := 115) (vs := []) (T := [.int x80]) (pc2 := 251) op157_248 ms_155 (by decide) rfl rfl (Nat.le_of_ble_eq_true rfl) (Nat.le_of_ble_eq_true rfl) sp_115 (mo_size_ok xs (by omega)  f87) rfl ?_
    show rn_R _ _ _ _ _ [.int r86, .int x80] _ _ _
    refine ry_ic_ne (tgt := 258) (pc2 := 254) op157_251 (by decide) (by decide) rfl (fun b88 => ?_) (fun b88 => ?_)
    · have h := (if_pos b88).symm.trans h
      refine rx_ic (v := 1) (pc2 := 255) op157_254 (by decide) rfl ?_
      refine ry_go (tgt := 259) op157_255 (by decide) (by decide) ?_
      obtain ⟨rfl, rfl⟩ := rq_ret h
      exact ry_rz (x := 1) op157_259 ms_157 rfl (by decide)
    · have h := (if_neg b88).symm.trans h
      refine rx_ic (v := 0) (pc2 := 259) op157_258 (by decide) rfl ?_
      obtain ⟨rfl, rfl⟩ := rq_ret h
      exact ry_rz (x := 0) op157_259 ms_157 rfl (by decide)
/-! mo_suitOf -/
theorem op162_0 : rn_op 162 0 = some (.iload_n 0, 1, 0, 0, 0) := by decide +kernel
theorem op162_1 : rn_op 162 1 = some (.iconst 4, 1, 0, 0, 0) := by decide +kernel
theorem op162_2 : rn_op 162 2 = some (.idiv, 1, 0, 0, 0) := by decide +kernel
theorem op162_3 : rn_op 162 3 = some (.ireturn, 1, 0, 0, 0) := by decide +kernel
def mo_suitOf (n : Nat) (a0 : Int32) (m : rn_Mem) : Option (Int32 × rn_Mem) :=
  some (a0 / 4, m)
set_option maxHeartbeats 4000000 in
set_option maxRecDepth 20000 in
theorem mo_suitOf_ok (xs : List Int32) {d : Nat} (hd : 0 ≤ d) {n : Nat} {a0 : Int32} {m mO : rn_Mem} {rO : Int32} (h : mo_suitOf n a0 m = some (rO, mO)) : rn_R xs d 162 0 (rn_ent 1 [.int a0]) [] (rn_SH, m) (some (.int rO)) (rn_SH, mO) := by
  unfold mo_suitOf at h
  show rn_R xs d 162 0 [some (.int a0)] [] (rn_SH, m) (some (.int rO)) (rn_SH, mO)
  refine rx_p (L2 := [some (.int a0)]) (S2 := [.int a0]) (pc2 := 1) op162_0 rfl rfl ?_
  refine rx_ic (v := 4) (pc2 := 2) op162_1 (by decide) rfl ?_
  refine rx_div (v := a0 / 4) (pc2 := 3) op162_2 (by decide) rfl rfl ?_
  obtain ⟨rfl, rfl⟩ := rq_ret h
  exact ry_ri op162_3 ms_162 rfl
/-! mo_winning -/
theorem op161_0 : rn_op 161 0 = some (.iconst 0, 1, 0, 0, 0) := by decide +kernel
theorem op161_1 : rn_op 161 1 = some (.istore 5, 2, 0, 0, 0) := by decide +kernel
theorem op161_3 : rn_op 161 3 = some (.iconst 1, 1, 0, 0, 0) := by decide +kernel
theorem op161_4 : rn_op 161 4 = some (.istore 6, 2, 0, 0, 0) := by decide +kernel
theorem op161_6 : rn_op 161 6 = some (.iload 6, 2, 0, 0, 0) := by decide +kernel
theorem op161_8 : rn_op 161 8 = some (.iload_n 3, 1, 0, 0, 0) := by decide +kernel
theorem op161_9 : rn_op 161 9 = some (.if_icmp .ge 84, 3, 0, 0, 0) := by decide +kernel
theorem op161_12 : rn_op 161 12 = some (.aload_n 1, 1, 0, 0, 0) := by decide +kernel
theorem op161_13 : rn_op 161 13 = some (.iload_n 2, 1, 0, 0, 0) := by decide +kernel
theorem op161_14 : rn_op 161 14 = some (.iload 6, 2, 0, 0, 0) := by decide +kernel
theorem op161_16 : rn_op 161 16 = some (.iadd, 1, 0, 0, 0) := by decide +kernel
theorem op161_17 : rn_op 161 17 = some (.iaload, 1, 0, 0, 0) := by decide +kernel
theorem op161_18 : rn_op 161 18 = some (.istore 7, 2, 0, 0, 0) := by decide +kernel
theorem op161_20 : rn_op 161 20 = some (.aload_n 1, 1, 0, 0, 0) := by decide +kernel
theorem op161_21 : rn_op 161 21 = some (.iload_n 2, 1, 0, 0, 0) := by decide +kernel
theorem op161_22 : rn_op 161 22 = some (.iload 5, 2, 0, 0, 0) := by decide +kernel
theorem op161_24 : rn_op 161 24 = some (.iadd, 1, 0, 0, 0) := by decide +kernel
theorem op161_25 : rn_op 161 25 = some (.iaload, 1, 0, 0, 0) := by decide +kernel
theorem op161_26 : rn_op 161 26 = some (.istore 8, 2, 0, 0, 0) := by decide +kernel
theorem op161_28 : rn_op 161 28 = some (.iload 7, 2, 0, 0, 0) := by decide +kernel
theorem op161_30 : rn_op 161 30 = some (.invokestatic 185, 3, 162, 1, 0) := by decide +kernel
theorem op161_33 : rn_op 161 33 = some (.iload 8, 2, 0, 0, 0) := by decide +kernel
theorem op161_35 : rn_op 161 35 = some (.invokestatic 185, 3, 162, 1, 0) := by decide +kernel
theorem op161_38 : rn_op 161 38 = some (.if_icmp .ne 18, 3, 0, 0, 0) := by decide +kernel
theorem op161_41 : rn_op 161 41 = some (.iload 7, 2, 0, 0, 0) := by decide +kernel
theorem op161_43 : rn_op 161 43 = some (.iload 8, 2, 0, 0, 0) := by decide +kernel
theorem op161_45 : rn_op 161 45 = some (.if_icmp .le 7, 3, 0, 0, 0) := by decide +kernel
theorem op161_48 : rn_op 161 48 = some (.iconst 1, 1, 0, 0, 0) := by decide +kernel
theorem op161_49 : rn_op 161 49 = some (.goto 22, 3, 0, 0, 0) := by decide +kernel
theorem op161_52 : rn_op 161 52 = some (.iconst 0, 1, 0, 0, 0) := by decide +kernel
theorem op161_53 : rn_op 161 53 = some (.goto 18, 3, 0, 0, 0) := by decide +kernel
theorem op161_56 : rn_op 161 56 = some (.iload 7, 2, 0, 0, 0) := by decide +kernel
theorem op161_58 : rn_op 161 58 = some (.invokestatic 185, 3, 162, 1, 0) := by decide +kernel
theorem op161_61 : rn_op 161 61 = some (.iload 4, 2, 0, 0, 0) := by decide +kernel
theorem op161_63 : rn_op 161 63 = some (.if_icmp .ne 7, 3, 0, 0, 0) := by decide +kernel
theorem op161_66 : rn_op 161 66 = some (.iconst 1, 1, 0, 0, 0) := by decide +kernel
theorem op161_67 : rn_op 161 67 = some (.goto 4, 3, 0, 0, 0) := by decide +kernel
theorem op161_70 : rn_op 161 70 = some (.iconst 0, 1, 0, 0, 0) := by decide +kernel
theorem op161_71 : rn_op 161 71 = some (.istore 9, 2, 0, 0, 0) := by decide +kernel
theorem op161_73 : rn_op 161 73 = some (.iload 9, 2, 0, 0, 0) := by decide +kernel
theorem op161_75 : rn_op 161 75 = some (.ifCond .eq 8, 3, 0, 0, 0) := by decide +kernel
theorem op161_78 : rn_op 161 78 = some (.iload 6, 2, 0, 0, 0) := by decide +kernel
theorem op161_80 : rn_op 161 80 = some (.goto 5, 3, 0, 0, 0) := by decide +kernel
theorem op161_83 : rn_op 161 83 = some (.iload 5, 2, 0, 0, 0) := by decide +kernel
theorem op161_85 : rn_op 161 85 = some (.istore 5, 2, 0, 0, 0) := by decide +kernel
theorem op161_87 : rn_op 161 87 = some (.iinc 6 1, 3, 0, 0, 0) := by decide +kernel
theorem op161_90 : rn_op 161 90 = some (.goto (-84), 3, 0, 0, 0) := by decide +kernel
theorem op161_93 : rn_op 161 93 = some (.iload 5, 2, 0, 0, 0) := by decide +kernel
theorem op161_95 : rn_op 161 95 = some (.ireturn, 1, 0, 0, 0) := by decide +kernel
def mo_winning_l6 (q1 : Nat) (a2 : Int32) (a3 : Int32) (a4 : Int32) : Nat → Int32 → Int32 → rn_Mem → Option (Int32 × rn_Mem)
  | 0, _, _, _ => none
  | n + 1, a5, a6, m =>
    if a6 < a3 then
      if rn_in (a2 + a6) (rn_al q1) = true then
        (some (m.1 q1 (a2 + a6).toNatClampNeg)).bind fun (x3 : Int32) =>
        if rn_in (a2 + a5) (rn_al q1) = true then
          (some (m.1 q1 (a2 + a5).toNatClampNeg)).bind fun (x5 : Int32) =>
          (mo_suitOf n x3 m).bind fun (r7, m6) =>
          (mo_suitOf n x5 m6).bind fun (r10, m9) =>
          (show Option (Int32 × rn_Mem) from
            if r7 = r10 then
              if x5 < x3 then
                some (1, m9)
              else
                some (0, m9)
            else
              (mo_suitOf n x3 m9).bind fun (r15, m14) =>
              if r15 = a4 then
                some (1, m14)
              else
                some (0, m14)).bind fun (x22, m23) =>
          (show Option (Int32) from
            if x22 = 0 then
              some (a5)
            else
              some (a6)).bind fun x31 =>
          (some (a6 + 1)).bind fun (x32 : Int32) =>
          mo_winning_l6 q1 a2 a3 a4 n x31 x32 m23
        else none
      else none
    else
      some (a5, m)
def mo_winning (n : Nat) (q1 : Nat) (a2 : Int32) (a3 : Int32) (a4 : Int32) (m : rn_Mem) : Option (Int32 × rn_Mem) :=
  (mo_winning_l6 q1 a2 a3 a4 n 0 1 m).bind fun (x41, m35) =>
  some (x41, m35)
set_option maxHeartbeats 4000000 in
set_option maxRecDepth 20000 in
theorem mo_winning_l6_ok (xs : List Int32) {d : Nat} (hd : 1 ≤ d + 1) {q1 : Nat} {a2 : Int32} {a3 : Int32} {a4 : Int32} {r : Option Value} {τ : rn_H} {out : Int32 × rn_Mem} (hr : ∀ (z5 : Int32) (mO : rn_Mem), out = (z5, mO) → ∀ (o0 o1 o2 o3 o4 o6 o7 o8 o9 : Option Value), rn_R xs (d + 1) 161 93 [o0, o1, o2, o3, o4, some (.int z5), o6, o7, o8, o9] [] (rn_SH, mO) r τ) : ∀ (n : Nat) (a5 : Int32) (a6 : Int32) (o0 o7 o8 o9 : Option Value) (m : rn_Mem), sA_arr q1 → mo_winning_l6 q1 a2 a3 a4 n a5 a6 m = some out → rn_R xs (d + 1) 161 6 [o0, some (.ref q1), some (.int a2), some (.int a3), some (.int a4), some (.int a5), some (.int a6), o7, o8, o9] [] (rn_SH, m) r τ := by
  intro n
  induction n with
  | zero =>
    intro _ _ _ _ _ _ _ _ h
    cases h
  | succ n ih =>
    intro a5 a6 o0 o7 o8 o9 m hq1 h
    unfold mo_winning_l6 at h
    try dsimp only at h
    refine rx_p (L2 := [o0, some (.ref q1), some (.int a2), some (.int a3), some (.int a4), some (.int a5), some (.int a6), o7, o8, o9]) (S2 := [.int a6]) (pc2 := 8) op161_6 rfl rfl ?_
    refine rx_p (L2 := [o0, some (.ref q1), some (.int a2), some (.int a3), some (.int a4), some (.int a5), some (.int a6), o7, o8, o9]) (S2 := [.int a3, .int a6]) (pc2 := 9) op161_8 rfl rfl ?_
    refine ry_ic_ge (tgt := 93) (pc2 := 12) op161_9 (by decide) (by decide) rfl (fun b1 => ?_) (fun b1 => ?_)
    · have h := (if_pos b1).symm.trans h
      refine rx_p (L2 := [o0, some (.ref q1), some (.int a2), some (.int a3), some (.int a4), some (.int a5), some (.int a6), o7, o8, o9]) (S2 := [.ref q1]) (pc2 := 13) op161_12 rfl rfl ?_
      refine rx_p (L2 := [o0, some (.ref q1), some (.int a2), some (.int a3), some (.int a4), some (.int a5), some (.int a6), o7, o8, o9]) (S2 := [.int a2, .ref q1]) (pc2 := 14) op161_13 rfl rfl ?_
      refine rx_p (L2 := [o0, some (.ref q1), some (.int a2), some (.int a3), some (.int a4), some (.int a5), some (.int a6), o7, o8, o9]) (S2 := [.int a6, .int a2, .ref q1]) (pc2 := 16) op161_14 rfl rfl ?_
      refine rx_p (L2 := [o0, some (.ref q1), some (.int a2), some (.int a3), some (.int a4), some (.int a5), some (.int a6), o7, o8, o9]) (S2 := [.int (a2 + a6), .ref q1]) (pc2 := 17) op161_16 rfl rfl ?_
      obtain ⟨k2, h⟩ := rq_chk h
      refine rx_ia (pc2 := 18) op161_17 (rn_shlt hq1) hq1 k2 rfl rfl ?_
      obtain ⟨x3, ex3, h⟩ := rq_bv h
      refine rx_s (v := x3) (L2 := [o0, some (.ref q1), some (.int a2), some (.int a3), some (.int a4), some (.int a5), some (.int a6), some (.int x3), o8, o9]) (pc2 := 20) op161_18 ex3 rfl rfl ?_
      refine rx_p (L2 := [o0, some (.ref q1), some (.int a2), some (.int a3), some (.int a4), some (.int a5), some (.int a6), some (.int x3), o8, o9]) (S2 := [.ref q1]) (pc2 := 21) op161_20 rfl rfl ?_
      refine rx_p (L2 := [o0, some (.ref q1), some (.int a2), some (.int a3), some (.int a4), some (.int a5), some (.int a6), some (.int x3), o8, o9]) (S2 := [.int a2, .ref q1]) (pc2 := 22) op161_21 rfl rfl ?_
      refine rx_p (L2 := [o0, some (.ref q1), some (.int a2), some (.int a3), some (.int a4), some (.int a5), some (.int a6), some (.int x3), o8, o9]) (S2 := [.int a5, .int a2, .ref q1]) (pc2 := 24) op161_22 rfl rfl ?_
      refine rx_p (L2 := [o0, some (.ref q1), some (.int a2), some (.int a3), some (.int a4), some (.int a5), some (.int a6), some (.int x3), o8, o9]) (S2 := [.int (a2 + a5), .ref q1]) (pc2 := 25) op161_24 rfl rfl ?_
      obtain ⟨k4, h⟩ := rq_chk h
      refine rx_ia (pc2 := 26) op161_25 (rn_shlt hq1) hq1 k4 rfl rfl ?_
      obtain ⟨x5, ex5, h⟩ := rq_bv h
      refine rx_s (v := x5) (L2 := [o0, some (.ref q1), some (.int a2), some (.int a3), some (.int a4), some (.int a5), some (.int a6), some (.int x3), some (.int x5), o9]) (pc2 := 28) op161_26 ex5 rfl rfl ?_
      refine rx_p (L2 := [o0, some (.ref q1), some (.int a2), some (.int a3), some (.int a4), some (.int a5), some (.int a6), some (.int x3), some (.int x5), o9]) (S2 := [.int x3]) (pc2 := 30) op161_28 rfl rfl ?_
      obtain ⟨⟨r7, m6⟩, f8, h⟩ := rq_bind h
      try dsimp only at h
      refine ry_is (vs := [.int x3]) (T := []) (pc2 := 33) op161_30 (by decide) ms_162 (by decide) rfl rfl (Nat.le_of_ble_eq_true rfl) (Nat.le_of_ble_eq_true rfl) (mo_suitOf_ok xs (by omega)  f8) rfl ?_
      show rn_R _ _ _ _ _ [.int r7] _ _ _
      refine rx_p (L2 := [o0, some (.ref q1), some (.int a2), some (.int a3), some (.int a4), some (.int a5), some (.int a6), some (.int x3), some (.int x5), o9]) (S2 := [.int x5, .int r7]) (pc2 := 35) op161_33 rfl rfl ?_
      obtain ⟨⟨r10, m9⟩, f11, h⟩ := rq_bind h
      try dsimp only at h
      refine ry_is (vs := [.int x5]) (T := [.int r7]) (pc2 := 38) op161_35 (by decide) ms_162 (by decide) rfl rfl (Nat.le_of_ble_eq_true rfl) (Nat.le_of_ble_eq_true rfl) (mo_suitOf_ok xs (by omega)  f11) rfl ?_
      show rn_R _ _ _ _ _ [.int r10, .int r7] _ _ _
      obtain ⟨⟨x22, m23⟩, gc34, h⟩ := rq_bind h
      try dsimp only at h
      have c34 : ∀ (o18 o19 o20 o21 : Option Value), rn_R xs (d + 1) 161 71 [o18, some (.ref q1), some (.int a2), some (.int a3), some (.int a4), some (.int a5), some (.int a6), o19, o20, o21] [.int x22] (rn_SH, m23) r τ := by
        intro o18 o19 o20 o21
        refine rx_sd (v := x22) (j := 8) (pc2 := 73) op161_71 rfl rfl (Nat.le_of_ble_eq_true rfl) rfl (fun o24 => ?_)
        show rn_R _ _ _ _ [o18, some (.ref q1), some (.int a2), some (.int a3), some (.int a4), some (.int a5), some (.int a6), o19, o24, some (.int x22)] _ _ _ _
        refine rx_p (L2 := [o18, some (.ref q1), some (.int a2), some (.int a3), some (.int a4), some (.int a5), some (.int a6), o19, o24, some (.int x22)]) (S2 := [.int x22]) (pc2 := 75) op161_73 rfl rfl ?_
        obtain ⟨x31, gc33, h⟩ := rq_bind h
        try dsimp only at h
        have c33 : ∀ (o26 o27 o28 o29 o30 : Option Value), rn_R xs (d + 1) 161 85 [o26, some (.ref q1), some (.int a2), some (.int a3), some (.int a4), o27, some (.int a6), o28, o29, o30] [.int x31] (rn_SH, m23) r τ := by
          intro o26 o27 o28 o29 o30
          refine rx_s (L2 := [o26, some (.ref q1), some (.int a2), some (.int a3), some (.int a4), some (.int x31), some (.int a6), o28, o29, o30]) (pc2 := 87) op161_85 rfl rfl rfl ?_
          obtain ⟨x32, ex32, h⟩ := rq_bv h
          refine rx_inc (w := 1) (v := x32) (L2 := [o26, some (.ref q1), some (.int a2), some (.int a3), some (.int a4), some (.int x31), some (.int x32), o28, o29, o30]) (pc2 := 90) op161_87 rfl (by decide) ex32 rfl rfl ?_
          refine ry_go (tgt := 6) op161_90 (by decide) (by decide) ?_
          exact ih _ _ _ _ _ _ _ hq1 h
        refine ry_if_eq (tgt := 83) (pc2 := 78) op161_75 (by decide) (by decide) rfl (fun b25 => ?_) (fun b25 => ?_)
        · have gc33 := (if_pos b25).symm.trans gc33
          refine rx_p (L2 := [o18, some (.ref q1), some (.int a2), some (.int a3), some (.int a4), some (.int a5), some (.int a6), o19, o24, some (.int x22)]) (S2 := [.int a5]) (pc2 := 85) op161_83 rfl rfl ?_
          cases gc33
          exact c33 _ _ _ _ _
        · have gc33 := (if_neg b25).symm.trans gc33
          refine rx_p (L2 := [o18, some (.ref q1), some (.int a2), some (.int a3), some (.int a4), some (.int a5), some (.int a6), o19, o24, some (.int x22)]) (S2 := [.int a6]) (pc2 := 80) op161_78 rfl rfl ?_
          refine ry_go (tgt := 85) op161_80 (by decide) (by decide) ?_
          cases gc33
          exact c33 _ _ _ _ _
      refine ry_ic_ne (tgt := 56) (pc2 := 41) op161_38 (by decide) (by decide) rfl (fun b12 => ?_) (fun b12 => ?_)
      · have gc34 := (if_pos b12).symm.trans gc34
        refine rx_p (L2 := [o0, some (.ref q1), some (.int a2), some (.int a3), some (.int a4), some (.int a5), some (.int a6), some (.int x3), some (.int x5), o9]) (S2 := [.int x3]) (pc2 := 43) op161_41 rfl rfl ?_
        refine rx_p (L2 := [o0, some (.ref q1), some (.int a2), some (.int a3), some (.int a4), some (.int a5), some (.int a6), some (.int x3), some (.int x5), o9]) (S2 := [.int x5, .int x3]) (pc2 := 45) op161_43 rfl rfl ?_
        refine ry_ic_le (tgt := 52) (pc2 := 48) op161_45 (by decide) (by decide) rfl (fun b13 => ?_) (fun b13 => ?_)
        · have gc34 := (if_pos b13).symm.trans gc34
          refine rx_ic (v := 1) (pc2 := 49) op161_48 (by decide) rfl ?_
          refine ry_go (tgt := 71) op161_49 (by decide) (by decide) ?_
          cases gc34
          exact c34 _ _ _ _
        · have gc34 := (if_neg b13).symm.trans gc34
          refine rx_ic (v := 0) (pc2 := 53) op161_52 (by decide) rfl ?_
          refine ry_go (tgt := 71) op161_53 (by decide) (by decide) ?_
          cases gc34
          exact c34 _ _ _ _
      · have gc34 := (if_neg b12).symm.trans gc34
        refine rx_p (L2 := [o0, some (.ref q1), some (.int a2), some (.int a3), some (.int a4), some (.int a5), some (.int a6), some (.int x3), some (.int x5), o9]) (S2 := [.int x3]) (pc2 := 58) op161_56 rfl rfl ?_
        obtain ⟨⟨r15, m14⟩, f16, gc34⟩ := rq_bind gc34
        try dsimp only at gc34
        refine ry_is (vs := [.int x3]) (T := []) (pc2 := 61) op161_58 (by decide) ms_162 (by decide) rfl rfl (Nat.le_of_ble_eq_true rfl) (Nat.le_of_ble_eq_true rfl) (mo_suitOf_ok xs (by omega)  f16) rfl ?_
        show rn_R _ _ _ _ _ [.int r15] _ _ _
        refine rx_p (L2 := [o0, some (.ref q1), some (.int a2), some (.int a3), some (.int a4), some (.int a5), some (.int a6), some (.int x3), some (.int x5), o9]) (S2 := [.int a4, .int r15]) (pc2 := 63) op161_61 rfl rfl ?_
        refine ry_ic_ne (tgt := 70) (pc2 := 66) op161_63 (by decide) (by decide) rfl (fun b17 => ?_) (fun b17 => ?_)
        · have gc34 := (if_pos b17).symm.trans gc34
          refine rx_ic (v := 1) (pc2 := 67) op161_66 (by decide) rfl ?_
          refine ry_go (tgt := 71) op161_67 (by decide) (by decide) ?_
          cases gc34
          exact c34 _ _ _ _
        · have gc34 := (if_neg b17).symm.trans gc34
          refine rx_ic (v := 0) (pc2 := 71) op161_70 (by decide) rfl ?_
          cases gc34
          exact c34 _ _ _ _
    · have h := (if_neg b1).symm.trans h
      cases h
      exact hr _ _ rfl _ _ _ _ _ _ _ _ _
set_option maxHeartbeats 4000000 in
set_option maxRecDepth 20000 in
theorem mo_winning_ok (xs : List Int32) {d : Nat} (hd : 1 ≤ d) {n : Nat} {q1 : Nat} {a2 : Int32} {a3 : Int32} {a4 : Int32} {m mO : rn_Mem} {rO : Int32} (hq1 : sA_arr q1) (h : mo_winning n q1 a2 a3 a4 m = some (rO, mO)) : rn_R xs d 161 0 (rn_ent 10 [.ref 115, .ref q1, .int a2, .int a3, .int a4]) [] (rn_SH, m) (some (.int rO)) (rn_SH, mO) := by
  obtain ⟨d, rfl⟩ : ∃ e, d = e + 1 := ⟨d - 1, by omega⟩
  unfold mo_winning at h
  show rn_R xs (d + 1) 161 0 [some (.ref 115), some (.ref q1), some (.int a2), some (.int a3), some (.int a4), none, none, none, none, none] [] (rn_SH, m) (some (.int rO)) (rn_SH, mO)
  refine rx_ic (v := 0) (pc2 := 1) op161_0 (by decide) rfl ?_
  refine rx_s (L2 := [some (.ref 115), some (.ref q1), some (.int a2), some (.int a3), some (.int a4), some (.int 0), none, none, none, none]) (pc2 := 3) op161_1 rfl rfl rfl ?_
  refine rx_ic (v := 1) (pc2 := 4) op161_3 (by decide) rfl ?_
  refine rx_s (L2 := [some (.ref 115), some (.ref q1), some (.int a2), some (.int a3), some (.int a4), some (.int 0), some (.int 1), none, none, none]) (pc2 := 6) op161_4 rfl rfl rfl ?_
  obtain ⟨wf46, f46, h⟩ := rq_bind h
  refine mo_winning_l6_ok xs hd (fun x41 m35 eq => ?_) _ _ _ _ _ _ _ _ hq1 f46
  subst eq
  try dsimp only at h
  intro o36 o37 o38 o39 o40 o42 o43 o44 o45
  refine rx_p (L2 := [o36, o37, o38, o39, o40, some (.int x41), o42, o43, o44, o45]) (S2 := [.int x41]) (pc2 := 95) op161_93 rfl rfl ?_
  obtain ⟨rfl, rfl⟩ := rq_ret h
  exact ry_ri op161_95 ms_161 rfl
/-! mo_findLeaders -/
theorem op160_0 : rn_op 160 0 = some (.aload_n 0, 1, 0, 0, 0) := by decide +kernel
theorem op160_1 : rn_op 160 1 = some (.getfield 79, 3, 11, 36, 3) := by decide +kernel
theorem op160_4 : rn_op 160 4 = some (.iconst 0, 1, 0, 0, 0) := by decide +kernel
theorem op160_5 : rn_op 160 5 = some (.iload_n 2, 1, 0, 0, 0) := by decide +kernel
theorem op160_6 : rn_op 160 6 = some (.iastore, 1, 0, 0, 0) := by decide +kernel
theorem op160_7 : rn_op 160 7 = some (.iconst 0, 1, 0, 0, 0) := by decide +kernel
theorem op160_8 : rn_op 160 8 = some (.istore 4, 2, 0, 0, 0) := by decide +kernel
theorem op160_10 : rn_op 160 10 = some (.iload 4, 2, 0, 0, 0) := by decide +kernel
theorem op160_12 : rn_op 160 12 = some (.iconst 1, 1, 0, 0, 0) := by decide +kernel
theorem op160_13 : rn_op 160 13 = some (.iadd, 1, 0, 0, 0) := by decide +kernel
theorem op160_14 : rn_op 160 14 = some (.aload_n 0, 1, 0, 0, 0) := by decide +kernel
theorem op160_15 : rn_op 160 15 = some (.getfield 7, 3, 11, 0, 3) := by decide +kernel
theorem op160_18 : rn_op 160 18 = some (.iconst 1, 1, 0, 0, 0) := by decide +kernel
theorem op160_19 : rn_op 160 19 = some (.iaload, 1, 0, 0, 0) := by decide +kernel
theorem op160_20 : rn_op 160 20 = some (.imul, 1, 0, 0, 0) := by decide +kernel
theorem op160_21 : rn_op 160 21 = some (.iload_n 3, 1, 0, 0, 0) := by decide +kernel
theorem op160_22 : rn_op 160 22 = some (.if_icmp .gt 101, 3, 0, 0, 0) := by decide +kernel
theorem op160_25 : rn_op 160 25 = some (.aload_n 0, 1, 0, 0, 0) := by decide +kernel
theorem op160_26 : rn_op 160 26 = some (.getfield 79, 3, 11, 36, 3) := by decide +kernel
theorem op160_29 : rn_op 160 29 = some (.iload 4, 2, 0, 0, 0) := by decide +kernel
theorem op160_31 : rn_op 160 31 = some (.iaload, 1, 0, 0, 0) := by decide +kernel
theorem op160_32 : rn_op 160 32 = some (.aload_n 0, 1, 0, 0, 0) := by decide +kernel
theorem op160_33 : rn_op 160 33 = some (.aload_n 1, 1, 0, 0, 0) := by decide +kernel
theorem op160_34 : rn_op 160 34 = some (.iload 4, 2, 0, 0, 0) := by decide +kernel
theorem op160_36 : rn_op 160 36 = some (.aload_n 0, 1, 0, 0, 0) := by decide +kernel
theorem op160_37 : rn_op 160 37 = some (.getfield 7, 3, 11, 0, 3) := by decide +kernel
theorem op160_40 : rn_op 160 40 = some (.iconst 1, 1, 0, 0, 0) := by decide +kernel
theorem op160_41 : rn_op 160 41 = some (.iaload, 1, 0, 0, 0) := by decide +kernel
theorem op160_42 : rn_op 160 42 = some (.imul, 1, 0, 0, 0) := by decide +kernel
theorem op160_43 : rn_op 160 43 = some (.aload_n 0, 1, 0, 0, 0) := by decide +kernel
theorem op160_44 : rn_op 160 44 = some (.getfield 7, 3, 11, 0, 3) := by decide +kernel
theorem op160_47 : rn_op 160 47 = some (.iconst 1, 1, 0, 0, 0) := by decide +kernel
theorem op160_48 : rn_op 160 48 = some (.iaload, 1, 0, 0, 0) := by decide +kernel
theorem op160_49 : rn_op 160 49 = some (.aload_n 0, 1, 0, 0, 0) := by decide +kernel
theorem op160_50 : rn_op 160 50 = some (.getfield 7, 3, 11, 0, 3) := by decide +kernel
theorem op160_53 : rn_op 160 53 = some (.iconst 4, 1, 0, 0, 0) := by decide +kernel
theorem op160_54 : rn_op 160 54 = some (.iaload, 1, 0, 0, 0) := by decide +kernel
theorem op160_55 : rn_op 160 55 = some (.invokevirtual 193, 3, 161, 5, 11) := by decide +kernel
theorem op160_58 : rn_op 160 58 = some (.iadd, 1, 0, 0, 0) := by decide +kernel
theorem op160_59 : rn_op 160 59 = some (.aload_n 0, 1, 0, 0, 0) := by decide +kernel
theorem op160_60 : rn_op 160 60 = some (.getfield 7, 3, 11, 0, 3) := by decide +kernel
theorem op160_63 : rn_op 160 63 = some (.iconst 1, 1, 0, 0, 0) := by decide +kernel
theorem op160_64 : rn_op 160 64 = some (.iaload, 1, 0, 0, 0) := by decide +kernel
theorem op160_65 : rn_op 160 65 = some (.irem, 1, 0, 0, 0) := by decide +kernel
theorem op160_66 : rn_op 160 66 = some (.istore 5, 2, 0, 0, 0) := by decide +kernel
theorem op160_68 : rn_op 160 68 = some (.aload_n 0, 1, 0, 0, 0) := by decide +kernel
theorem op160_69 : rn_op 160 69 = some (.getfield 82, 3, 11, 37, 3) := by decide +kernel
theorem op160_72 : rn_op 160 72 = some (.iload 4, 2, 0, 0, 0) := by decide +kernel
theorem op160_74 : rn_op 160 74 = some (.iload 5, 2, 0, 0, 0) := by decide +kernel
theorem op160_76 : rn_op 160 76 = some (.iastore, 1, 0, 0, 0) := by decide +kernel
theorem op160_77 : rn_op 160 77 = some (.aload_n 0, 1, 0, 0, 0) := by decide +kernel
theorem op160_78 : rn_op 160 78 = some (.getfield 79, 3, 11, 36, 3) := by decide +kernel
theorem op160_81 : rn_op 160 81 = some (.iload 4, 2, 0, 0, 0) := by decide +kernel
theorem op160_83 : rn_op 160 83 = some (.iconst 1, 1, 0, 0, 0) := by decide +kernel
theorem op160_84 : rn_op 160 84 = some (.iadd, 1, 0, 0, 0) := by decide +kernel
theorem op160_85 : rn_op 160 85 = some (.aload_n 0, 1, 0, 0, 0) := by decide +kernel
theorem op160_86 : rn_op 160 86 = some (.getfield 7, 3, 11, 0, 3) := by decide +kernel
theorem op160_89 : rn_op 160 89 = some (.bipush 6, 2, 0, 0, 0) := by decide +kernel
theorem op160_91 : rn_op 160 91 = some (.iaload, 1, 0, 0, 0) := by decide +kernel
theorem op160_92 : rn_op 160 92 = some (.ifCond .ne 8, 3, 0, 0, 0) := by decide +kernel
theorem op160_95 : rn_op 160 95 = some (.iload 5, 2, 0, 0, 0) := by decide +kernel
theorem op160_97 : rn_op 160 97 = some (.goto 19, 3, 0, 0, 0) := by decide +kernel
theorem op160_100 : rn_op 160 100 = some (.aload_n 0, 1, 0, 0, 0) := by decide +kernel
theorem op160_101 : rn_op 160 101 = some (.getfield 79, 3, 11, 36, 3) := by decide +kernel
theorem op160_104 : rn_op 160 104 = some (.iload 4, 2, 0, 0, 0) := by decide +kernel
theorem op160_106 : rn_op 160 106 = some (.iaload, 1, 0, 0, 0) := by decide +kernel
theorem op160_107 : rn_op 160 107 = some (.iconst 1, 1, 0, 0, 0) := by decide +kernel
theorem op160_108 : rn_op 160 108 = some (.iadd, 1, 0, 0, 0) := by decide +kernel
theorem op160_109 : rn_op 160 109 = some (.aload_n 0, 1, 0, 0, 0) := by decide +kernel
theorem op160_110 : rn_op 160 110 = some (.getfield 7, 3, 11, 0, 3) := by decide +kernel
theorem op160_113 : rn_op 160 113 = some (.iconst 1, 1, 0, 0, 0) := by decide +kernel
theorem op160_114 : rn_op 160 114 = some (.iaload, 1, 0, 0, 0) := by decide +kernel
theorem op160_115 : rn_op 160 115 = some (.irem, 1, 0, 0, 0) := by decide +kernel
theorem op160_116 : rn_op 160 116 = some (.iastore, 1, 0, 0, 0) := by decide +kernel
theorem op160_117 : rn_op 160 117 = some (.iinc 4 1, 3, 0, 0, 0) := by decide +kernel
theorem op160_120 : rn_op 160 120 = some (.goto (-110), 3, 0, 0, 0) := by decide +kernel
theorem op160_123 : rn_op 160 123 = some (.return_, 1, 0, 0, 0) := by decide +kernel
def mo_findLeaders_l10 (q1 : Nat) (a3 : Int32) : Nat → Int32 → rn_Mem → Option (rn_Mem)
  | 0, _, _ => none
  | n + 1, a4, m =>
    if a3 < ((a4 + 1) * (m.1 116 1)) then
      some m
    else
      if rn_in a4 5 = true then
        (mo_winning n q1 (a4 * (m.1 116 1)) (m.1 116 1) (m.1 116 4) m).bind fun (r5, m4) =>
        if ¬ (m4.1 116 1) = 0 then
          (some (rn_rem ((m.1 139 a4.toNatClampNeg) + r5) (m4.1 116 1))).bind fun (x8 : Int32) =>
          if rn_in a4 4 = true then
            (some (rm_i m4 140 a4.toNatClampNeg x8)).bind fun (m9 : rn_Mem) =>
            (show Option (Int32) from
              if (m9.1 116 6) = 0 then
                some (x8)
              else
                if rn_in a4 5 = true then
                  if ¬ (m9.1 116 1) = 0 then
                    some (rn_rem ((m9.1 139 a4.toNatClampNeg) + 1) (m9.1 116 1))
                  else none
                else none).bind fun x16 =>
            if rn_in (a4 + 1) 5 = true then
              (some (rm_i m9 139 (a4 + 1).toNatClampNeg x16)).bind fun (m17 : rn_Mem) =>
              (some (a4 + 1)).bind fun (x19 : Int32) =>
              mo_findLeaders_l10 q1 a3 n x19 m17
            else none
          else none
        else none
      else none
def mo_findLeaders (n : Nat) (q1 : Nat) (a2 : Int32) (a3 : Int32) (m : rn_Mem) : Option (rn_Mem) :=
  (some (rm_i m 139 0 a2)).bind fun (m1 : rn_Mem) =>
  (mo_findLeaders_l10 q1 a3 n 0 m1).bind fun m21 =>
  some m21
set_option maxHeartbeats 4000000 in
set_option maxRecDepth 20000 in
theorem mo_findLeaders_l10_ok (xs : List Int32) {d : Nat} (hd : 2 ≤ d + 1) {q1 : Nat} {a3 : Int32} {r : Option Value} {τ : rn_H} {out : rn_Mem} (hr : ∀ (mO : rn_Mem), out = mO → ∀ (o0 o1 o2 o3 o4 o5 : Option Value), rn_R xs (d + 1) 160 123 [o0, o1, o2, o3, o4, o5] [] (rn_SH, mO) r τ) : ∀ (n : Nat) (a4 : Int32) (o2 o5 : Option Value) (m : rn_Mem), sA_arr q1 → mo_findLeaders_l10 q1 a3 n a4 m = some out → rn_R xs (d + 1) 160 10 [some (.ref 115), some (.ref q1), o2, some (.int a3), some (.int a4), o5] [] (rn_SH, m) r τ := by
  intro n
  induction n with
  | zero =>
    intro _ _ _ _ _ h
    cases h
  | succ n ih =>
    intro a4 o2 o5 m hq1 h
    unfold mo_findLeaders_l10 at h
    try dsimp only at h
    refine rx_p (L2 := [some (.ref 115), some (.ref q1), o2, some (.int a3), some (.int a4), o5]) (S2 := [.int a4]) (pc2 := 12) op160_10 rfl rfl ?_
    refine rx_ic (v := 1) (pc2 := 13) op160_12 (by decide) rfl ?_
    refine rx_p (L2 := [some (.ref 115), some (.ref q1), o2, some (.int a3), some (.int a4), o5]) (S2 := [.int (a4 + 1)]) (pc2 := 14) op160_13 rfl rfl ?_
    refine rx_p (L2 := [some (.ref 115), some (.ref q1), o2, some (.int a3), some (.int a4), o5]) (S2 := [.ref 115, .int (a4 + 1)]) (pc2 := 15) op160_14 rfl rfl ?_
    refine rx_gf (v := .ref 116) (pc2 := 18) op160_15 sp_115 rfl rfl rfl ?_
    refine rx_ic (v := 1) (pc2 := 19) op160_18 (by decide) rfl ?_
    refine rx_ia (j := 1) (pc2 := 20) op160_19 (rn_shlt sp_116) sp_116 (by decide) (by decide) rfl ?_
    refine rx_p (L2 := [some (.ref 115), some (.ref q1), o2, some (.int a3), some (.int a4), o5]) (S2 := [.int ((a4 + 1) * (m.1 116 1))]) (pc2 := 21) op160_20 rfl rfl ?_
    refine rx_p (L2 := [some (.ref 115), some (.ref q1), o2, some (.int a3), some (.int a4), o5]) (S2 := [.int a3, .int ((a4 + 1) * (m.1 116 1))]) (pc2 := 22) op160_21 rfl rfl ?_
    refine ry_ic_gt (tgt := 123) (pc2 := 25) op160_22 (by decide) (by decide) rfl (fun b2 => ?_) (fun b2 => ?_)
    · have h := (if_pos b2).symm.trans h
      cases h
      exact hr _ rfl _ _ _ _ _ _
    · have h := (if_neg b2).symm.trans h
      refine rx_p (L2 := [some (.ref 115), some (.ref q1), o2, some (.int a3), some (.int a4), o5]) (S2 := [.ref 115]) (pc2 := 26) op160_25 rfl rfl ?_
      refine rx_gf (v := .ref 139) (pc2 := 29) op160_26 sp_115 rfl rfl rfl ?_
      refine rx_p (L2 := [some (.ref 115), some (.ref q1), o2, some (.int a3), some (.int a4), o5]) (S2 := [.int a4, .ref 139]) (pc2 := 31) op160_29 rfl rfl ?_
      obtain ⟨k3, h⟩ := rq_chk h
      refine rx_ia (pc2 := 32) op160_31 (rn_shlt sp_139) sp_139 k3 rfl rfl ?_
      refine rx_p (L2 := [some (.ref 115), some (.ref q1), o2, some (.int a3), some (.int a4), o5]) (S2 := [.ref 115, .int (m.1 139 a4.toNatClampNeg)]) (pc2 := 33) op160_32 rfl rfl ?_
      refine rx_p (L2 := [some (.ref 115), some (.ref q1), o2, some (.int a3), some (.int a4), o5]) (S2 := [.ref q1, .ref 115, .int (m.1 139 a4.toNatClampNeg)]) (pc2 := 34) op160_33 rfl rfl ?_
      refine rx_p (L2 := [some (.ref 115), some (.ref q1), o2, some (.int a3), some (.int a4), o5]) (S2 := [.int a4, .ref q1, .ref 115, .int (m.1 139 a4.toNatClampNeg)]) (pc2 := 36) op160_34 rfl rfl ?_
      refine rx_p (L2 := [some (.ref 115), some (.ref q1), o2, some (.int a3), some (.int a4), o5]) (S2 := [.ref 115, .int a4, .ref q1, .ref 115, .int (m.1 139 a4.toNatClampNeg)]) (pc2 := 37) op160_36 rfl rfl ?_
      refine rx_gf (v := .ref 116) (pc2 := 40) op160_37 sp_115 rfl rfl rfl ?_
      refine rx_ic (v := 1) (pc2 := 41) op160_40 (by decide) rfl ?_
      refine rx_ia (j := 1) (pc2 := 42) op160_41 (rn_shlt sp_116) sp_116 (by decide) (by decide) rfl ?_
      refine rx_p (L2 := [some (.ref 115), some (.ref q1), o2, some (.int a3), some (.int a4), o5]) (S2 := [.int (a4 * (m.1 116 1)), .ref q1, .ref 115, .int (m.1 139 a4.toNatClampNeg)]) (pc2 := 43) op160_42 rfl rfl ?_
      refine rx_p (L2 := [some (.ref 115), some (.ref q1), o2, some (.int a3), some (.int a4), o5]) (S2 := [.ref 115, .int (a4 * (m.1 116 1)), .ref q1, .ref 115, .int (m.1 139 a4.toNatClampNeg)]) (pc2 := 44) op160_43 rfl rfl ?_
      refine rx_gf (v := .ref 116) (pc2 := 47) op160_44 sp_115 rfl rfl rfl ?_
      refine rx_ic (v := 1) (pc2 := 48) op160_47 (by decide) rfl ?_
      refine rx_ia (j := 1) (pc2 := 49) op160_48 (rn_shlt sp_116) sp_116 (by decide) (by decide) rfl ?_
      refine rx_p (L2 := [some (.ref 115), some (.ref q1), o2, some (.int a3), some (.int a4), o5]) (S2 := [.ref 115, .int (m.1 116 1), .int (a4 * (m.1 116 1)), .ref q1, .ref 115, .int (m.1 139 a4.toNatClampNeg)]) (pc2 := 50) op160_49 rfl rfl ?_
      refine rx_gf (v := .ref 116) (pc2 := 53) op160_50 sp_115 rfl rfl rfl ?_
      refine rx_ic (v := 4) (pc2 := 54) op160_53 (by decide) rfl ?_
      refine rx_ia (j := 4) (pc2 := 55) op160_54 (rn_shlt sp_116) sp_116 (by decide) (by decide) rfl ?_
      obtain ⟨⟨r5, m4⟩, f6, h⟩ := rq_bind h
      try dsimp only at h
      refine ry_iv (p := 115) (vs := [.ref q1, .int (a4 * (m.1 116 1)), .int (m.1 116 1), .int (m.1 116 4)]) (T := [.int (m.1 139 a4.toNatClampNeg)]) (pc2 := 58) op160_55 ms_161 (by decide) rfl rfl (Nat.le_of_ble_eq_true rfl) (Nat.le_of_ble_eq_true rfl) sp_115 (mo_winning_ok xs (by omega) hq1 f6) rfl ?_
      show rn_R _ _ _ _ _ [.int r5, .int (m.1 139 a4.toNatClampNeg)] _ _ _
      refine rx_p (L2 := [some (.ref 115), some (.ref q1), o2, some (.int a3), some (.int a4), o5]) (S2 := [.int ((m.1 139 a4.toNatClampNeg) + r5)]) (pc2 := 59) op160_58 rfl rfl ?_
      refine rx_p (L2 := [some (.ref 115), some (.ref q1), o2, some (.int a3), some (.int a4), o5]) (S2 := [.ref 115, .int ((m.1 139 a4.toNatClampNeg) + r5)]) (pc2 := 60) op160_59 rfl rfl ?_
      refine rx_gf (v := .ref 116) (pc2 := 63) op160_60 sp_115 rfl rfl rfl ?_
      refine rx_ic (v := 1) (pc2 := 64) op160_63 (by decide) rfl ?_
      refine rx_ia (j := 1) (pc2 := 65) op160_64 (rn_shlt sp_116) sp_116 (by decide) (by decide) rfl ?_
      obtain ⟨k7, h⟩ := rq_chk h
      refine rx_rem (v := rn_rem ((m.1 139 a4.toNatClampNeg) + r5) (m4.1 116 1)) (pc2 := 66) op160_65 k7 rfl rfl ?_
      obtain ⟨x8, ex8, h⟩ := rq_bv h
      refine rx_s (v := x8) (L2 := [some (.ref 115), some (.ref q1), o2, some (.int a3), some (.int a4), some (.int x8)]) (pc2 := 68) op160_66 ex8 rfl rfl ?_
      refine rx_p (L2 := [some (.ref 115), some (.ref q1), o2, some (.int a3), some (.int a4), some (.int x8)]) (S2 := [.ref 115]) (pc2 := 69) op160_68 rfl rfl ?_
      refine rx_gf (v := .ref 140) (pc2 := 72) op160_69 sp_115 rfl rfl rfl ?_
      refine rx_p (L2 := [some (.ref 115), some (.ref q1), o2, some (.int a3), some (.int a4), some (.int x8)]) (S2 := [.int a4, .ref 140]) (pc2 := 74) op160_72 rfl rfl ?_
      refine rx_p (L2 := [some (.ref 115), some (.ref q1), o2, some (.int a3), some (.int a4), some (.int x8)]) (S2 := [.int x8, .int a4, .ref 140]) (pc2 := 76) op160_74 rfl rfl ?_
      obtain ⟨k10, h⟩ := rq_chk h
      obtain ⟨m9, em9, h⟩ := rq_bv h
      refine rx_is (m2 := m9) (pc2 := 77) op160_76 sp_140 k10 rfl em9 rfl ?_
      refine rx_p (L2 := [some (.ref 115), some (.ref q1), o2, some (.int a3), some (.int a4), some (.int x8)]) (S2 := [.ref 115]) (pc2 := 78) op160_77 rfl rfl ?_
      refine rx_gf (v := .ref 139) (pc2 := 81) op160_78 sp_115 rfl rfl rfl ?_
      refine rx_p (L2 := [some (.ref 115), some (.ref q1), o2, some (.int a3), some (.int a4), some (.int x8)]) (S2 := [.int a4, .ref 139]) (pc2 := 83) op160_81 rfl rfl ?_
      refine rx_ic (v := 1) (pc2 := 84) op160_83 (by decide) rfl ?_
      refine rx_p (L2 := [some (.ref 115), some (.ref q1), o2, some (.int a3), some (.int a4), some (.int x8)]) (S2 := [.int (a4 + 1), .ref 139]) (pc2 := 85) op160_84 rfl rfl ?_
      refine rx_p (L2 := [some (.ref 115), some (.ref q1), o2, some (.int a3), some (.int a4), some (.int x8)]) (S2 := [.ref 115, .int (a4 + 1), .ref 139]) (pc2 := 86) op160_85 rfl rfl ?_
      refine rx_gf (v := .ref 116) (pc2 := 89) op160_86 sp_115 rfl rfl rfl ?_
      refine rx_bp (v := 6) (pc2 := 91) op160_89 (by decide) rfl ?_
      refine rx_ia (j := 6) (pc2 := 92) op160_91 (rn_shlt sp_116) sp_116 (by decide) (by decide) rfl ?_
      obtain ⟨x16, gc20, h⟩ := rq_bind h
      try dsimp only at h
      have c20 : ∀ (o14 o15 : Option Value), rn_R xs (d + 1) 160 116 [some (.ref 115), some (.ref q1), o14, some (.int a3), some (.int a4), o15] [.int x16, .int (a4 + 1), .ref 139] (rn_SH, m9) r τ := by
        intro o14 o15
        obtain ⟨k18, h⟩ := rq_chk h
        obtain ⟨m17, em17, h⟩ := rq_bv h
        refine rx_is (m2 := m17) (pc2 := 117) op160_116 sp_139 k18 rfl em17 rfl ?_
        obtain ⟨x19, ex19, h⟩ := rq_bv h
        refine rx_inc (w := 1) (v := x19) (L2 := [some (.ref 115), some (.ref q1), o14, some (.int a3), some (.int x19), o15]) (pc2 := 120) op160_117 rfl (by decide) ex19 rfl rfl ?_
        refine ry_go (tgt := 10) op160_120 (by decide) (by decide) ?_
        exact ih _ _ _ _ hq1 h
      refine ry_if_ne (tgt := 100) (pc2 := 95) op160_92 (by decide) (by decide) rfl (fun b11 => ?_) (fun b11 => ?_)
      · have gc20 := (if_pos b11).symm.trans gc20
        refine rx_p (L2 := [some (.ref 115), some (.ref q1), o2, some (.int a3), some (.int a4), some (.int x8)]) (S2 := [.int x8, .int (a4 + 1), .ref 139]) (pc2 := 97) op160_95 rfl rfl ?_
        refine ry_go (tgt := 116) op160_97 (by decide) (by decide) ?_
        cases gc20
        exact c20 _ _
      · have gc20 := (if_neg b11).symm.trans gc20
        refine rx_p (L2 := [some (.ref 115), some (.ref q1), o2, some (.int a3), some (.int a4), some (.int x8)]) (S2 := [.ref 115, .int (a4 + 1), .ref 139]) (pc2 := 101) op160_100 rfl rfl ?_
        refine rx_gf (v := .ref 139) (pc2 := 104) op160_101 sp_115 rfl rfl rfl ?_
        refine rx_p (L2 := [some (.ref 115), some (.ref q1), o2, some (.int a3), some (.int a4), some (.int x8)]) (S2 := [.int a4, .ref 139, .int (a4 + 1), .ref 139]) (pc2 := 106) op160_104 rfl rfl ?_
        obtain ⟨k12, gc20⟩ := rq_chk gc20
        refine rx_ia (pc2 := 107) op160_106 (rn_shlt sp_139) sp_139 k12 rfl rfl ?_
        refine rx_ic (v := 1) (pc2 := 108) op160_107 (by decide) rfl ?_
        refine rx_p (L2 := [some (.ref 115), some (.ref q1), o2, some (.int a3), some (.int a4), some (.int x8)]) (S2 := [.int ((m9.1 139 a4.toNatClampNeg) + 1), .int (a4 + 1), .ref 139]) (pc2 := 109) op160_108 rfl rfl ?_
        refine rx_p (L2 := [some (.ref 115), some (.ref q1), o2, some (.int a3), some (.int a4), some (.int x8)]) (S2 := [.ref 115, .int ((m9.1 139 a4.toNatClampNeg) + 1), .int (a4 + 1), .ref 139]) (pc2 := 110) op160_109 rfl rfl ?_
        refine rx_gf (v := .ref 116) (pc2 := 113) op160_110 sp_115 rfl rfl rfl ?_
        refine rx_ic (v := 1) (pc2 := 114) op160_113 (by decide) rfl ?_
        refine rx_ia (j := 1) (pc2 := 115) op160_114 (rn_shlt sp_116) sp_116 (by decide) (by decide) rfl ?_
        obtain ⟨k13, gc20⟩ := rq_chk gc20
        refine rx_rem (v := rn_rem ((m9.1 139 a4.toNatClampNeg) + 1) (m9.1 116 1)) (pc2 := 116) op160_115 k13 rfl rfl ?_
        cases gc20
        exact c20 _ _
set_option maxHeartbeats 4000000 in
set_option maxRecDepth 20000 in
theorem mo_findLeaders_ok (xs : List Int32) {d : Nat} (hd : 2 ≤ d) {n : Nat} {q1 : Nat} {a2 : Int32} {a3 : Int32} {m mO : rn_Mem} (hq1 : sA_arr q1) (h : mo_findLeaders n q1 a2 a3 m = some mO) : rn_R xs d 160 0 (rn_ent 6 [.ref 115, .ref q1, .int a2, .int a3]) [] (rn_SH, m) none (rn_SH, mO) := by
  obtain ⟨d, rfl⟩ : ∃ e, d = e + 1 := ⟨d - 1, by omega⟩
  unfold mo_findLeaders at h
  show rn_R xs (d + 1) 160 0 [some (.ref 115), some (.ref q1), some (.int a2), some (.int a3), none, none] [] (rn_SH, m) none (rn_SH, mO)
  refine rx_p (L2 := [some (.ref 115), some (.ref q1), some (.int a2), some (.int a3), none, none]) (S2 := [.ref 115]) (pc2 := 1) op160_0 rfl rfl ?_
  refine rx_gf (v := .ref 139) (pc2 := 4) op160_1 sp_115 rfl rfl rfl ?_
  refine rx_ic (v := 0) (pc2 := 5) op160_4 (by decide) rfl ?_
  refine rx_p (L2 := [some (.ref 115), some (.ref q1), some (.int a2), some (.int a3), none, none]) (S2 := [.int a2, .int 0, .ref 139]) (pc2 := 6) op160_5 rfl rfl ?_
  obtain ⟨m1, em1, h⟩ := rq_bv h
  refine rx_is (j := 0) (m2 := m1) (pc2 := 7) op160_6 sp_139 (by decide) (by decide) em1 rfl ?_
  refine rx_ic (v := 0) (pc2 := 8) op160_7 (by decide) rfl ?_
  refine rx_s (L2 := [some (.ref 115), some (.ref q1), some (.int a2), some (.int a3), some (.int 0), none]) (pc2 := 10) op160_8 rfl rfl rfl ?_
  obtain ⟨m21, f28, h⟩ := rq_bind h
  refine mo_findLeaders_l10_ok xs hd (fun m0 eq => ?_) _ _ _ _ _ hq1 f28
  subst eq
  try dsimp only at h
  intro o22 o23 o24 o25 o26 o27
  obtain rfl := Option.some.inj h
  exact ry_rv op160_123 ms_160 rfl
/-! mo_takeRow -/
theorem op159_0 : rn_op 159 0 = some (.iconst 0, 1, 0, 0, 0) := by decide +kernel
theorem op159_1 : rn_op 159 1 = some (.istore_n 1, 1, 0, 0, 0) := by decide +kernel
theorem op159_2 : rn_op 159 2 = some (.iload_n 1, 1, 0, 0, 0) := by decide +kernel
theorem op159_3 : rn_op 159 3 = some (.aload_n 0, 1, 0, 0, 0) := by decide +kernel
theorem op159_4 : rn_op 159 4 = some (.invokevirtual 167, 3, 155, 1, 11) := by decide +kernel
theorem op159_7 : rn_op 159 7 = some (.if_icmp .ge 24, 3, 0, 0, 0) := by decide +kernel
theorem op159_10 : rn_op 159 10 = some (.aload_n 0, 1, 0, 0, 0) := by decide +kernel
theorem op159_11 : rn_op 159 11 = some (.getfield 85, 3, 11, 38, 3) := by decide +kernel
theorem op159_14 : rn_op 159 14 = some (.iload_n 1, 1, 0, 0, 0) := by decide +kernel
theorem op159_15 : rn_op 159 15 = some (.aload_n 0, 1, 0, 0, 0) := by decide +kernel
theorem op159_16 : rn_op 159 16 = some (.getfield 7, 3, 11, 0, 3) := by decide +kernel
theorem op159_19 : rn_op 159 19 = some (.bipush 89, 2, 0, 0, 0) := by decide +kernel
theorem op159_21 : rn_op 159 21 = some (.iload_n 1, 1, 0, 0, 0) := by decide +kernel
theorem op159_22 : rn_op 159 22 = some (.iadd, 1, 0, 0, 0) := by decide +kernel
theorem op159_23 : rn_op 159 23 = some (.iaload, 1, 0, 0, 0) := by decide +kernel
theorem op159_24 : rn_op 159 24 = some (.iastore, 1, 0, 0, 0) := by decide +kernel
theorem op159_25 : rn_op 159 25 = some (.iinc 1 1, 3, 0, 0, 0) := by decide +kernel
theorem op159_28 : rn_op 159 28 = some (.goto (-26), 3, 0, 0, 0) := by decide +kernel
theorem op159_31 : rn_op 159 31 = some (.aload_n 0, 1, 0, 0, 0) := by decide +kernel
theorem op159_32 : rn_op 159 32 = some (.aload_n 0, 1, 0, 0, 0) := by decide +kernel
theorem op159_33 : rn_op 159 33 = some (.getfield 85, 3, 11, 38, 3) := by decide +kernel
theorem op159_36 : rn_op 159 36 = some (.aload_n 0, 1, 0, 0, 0) := by decide +kernel
theorem op159_37 : rn_op 159 37 = some (.getfield 7, 3, 11, 0, 3) := by decide +kernel
theorem op159_40 : rn_op 159 40 = some (.bipush 88, 2, 0, 0, 0) := by decide +kernel
theorem op159_42 : rn_op 159 42 = some (.iaload, 1, 0, 0, 0) := by decide +kernel
theorem op159_43 : rn_op 159 43 = some (.aload_n 0, 1, 0, 0, 0) := by decide +kernel
theorem op159_44 : rn_op 159 44 = some (.invokevirtual 167, 3, 155, 1, 11) := by decide +kernel
theorem op159_47 : rn_op 159 47 = some (.invokevirtual 288, 3, 160, 4, 11) := by decide +kernel
theorem op159_50 : rn_op 159 50 = some (.return_, 1, 0, 0, 0) := by decide +kernel
def mo_takeRow_l2  : Nat → Int32 → rn_Mem → Option (rn_Mem)
  | 0, _, _ => none
  | n + 1, a1, m =>
    (mo_size n m).bind fun (r2, m1) =>
    if a1 < r2 then
      if rn_in ((89 : Int32) + a1) 101 = true then
        if rn_in a1 12 = true then
          (some (rm_i m1 141 a1.toNatClampNeg (m1.1 116 ((89 : Int32) + a1).toNatClampNeg))).bind fun (m6 : rn_Mem) =>
          (some (a1 + 1)).bind fun (x8 : Int32) =>
          mo_takeRow_l2 n x8 m6
        else none
      else none
    else
      some m1
def mo_takeRow (n : Nat)  (m : rn_Mem) : Option (rn_Mem) :=
  (mo_takeRow_l2 n 0 m).bind fun m9 =>
  (mo_size n m9).bind fun (r12, m11) =>
  (mo_findLeaders n 141 (m9.1 116 88) r12 m11).bind fun m14 =>
  some m14
set_option maxHeartbeats 4000000 in
set_option maxRecDepth 20000 in
theorem mo_takeRow_l2_ok (xs : List Int32) {d : Nat} (hd : 3 ≤ d + 1) {r : Option Value} {τ : rn_H} {out : rn_Mem} (hr : ∀ (mO : rn_Mem), out = mO → ∀ (o1 : Option Value), rn_R xs (d + 1) 159 31 [some (.ref 115), o1] [] (rn_SH, mO) r τ) : ∀ (n : Nat) (a1 : Int32) (m : rn_Mem), mo_takeRow_l2 n a1 m = some out → rn_R xs (d + 1) 159 2 [some (.ref 115), some (.int a1)] [] (rn_SH, m) r τ := by
  intro n
  induction n with
  | zero =>
    intro _ _ h
    cases h
  | succ n ih =>
    intro a1 m h
    unfold mo_takeRow_l2 at h
    try dsimp only at h
    refine rx_p (L2 := [some (.ref 115), some (.int a1)]) (S2 := [.int a1]) (pc2 := 3) op159_2 rfl rfl ?_
    refine rx_p (L2 := [some (.ref 115), some (.int a1)]) (S2 := [.ref 115, .int a1]) (pc2 := 4) op159_3 rfl rfl ?_
    obtain ⟨⟨r2, m1⟩, f3, h⟩ := rq_bind h
    try dsimp only at h
    refine ry_iv (p := 115) (vs := []) (T := [.int a1]) (pc2 := 7) op159_4 ms_155 (by decide) rfl rfl (Nat.le_of_ble_eq_true rfl) (Nat.le_of_ble_eq_true rfl) sp_115 (mo_size_ok xs (by omega)  f3) rfl ?_
    show rn_R _ _ _ _ _ [.int r2, .int a1] _ _ _
    refine ry_ic_ge (tgt := 31) (pc2 := 10) op159_7 (by decide) (by decide) rfl (fun b4 => ?_) (fun b4 => ?_)
    · have h := (if_pos b4).symm.trans h
      refine rx_p (L2 := [some (.ref 115), some (.int a1)]) (S2 := [.ref 115]) (pc2 := 11) op159_10 rfl rfl ?_
      refine rx_gf (v := .ref 141) (pc2 := 14) op159_11 sp_115 rfl rfl rfl ?_
      refine rx_p (L2 := [some (.ref 115), some (.int a1)]) (S2 := [.int a1, .ref 141]) (pc2 := 15) op159_14 rfl rfl ?_
      refine rx_p (L2 := [some (.ref 115), some (.int a1)]) (S2 := [.ref 115, .int a1, .ref 141]) (pc2 := 16) op159_15 rfl rfl ?_
      refine rx_gf (v := .ref 116) (pc2 := 19) op159_16 sp_115 rfl rfl rfl ?_
      refine rx_bp (v := 89) (pc2 := 21) op159_19 (by decide) rfl ?_
      refine rx_p (L2 := [some (.ref 115), some (.int a1)]) (S2 := [.int a1, .int 89, .ref 116, .int a1, .ref 141]) (pc2 := 22) op159_21 rfl rfl ?_
      refine rx_p (L2 := [some (.ref 115), some (.int a1)]) (S2 := [.int ((89 : Int32) + a1), .ref 116, .int a1, .ref 141]) (pc2 := 23) op159_22 rfl rfl ?_
      obtain ⟨k5, h⟩ := rq_chk h
      refine rx_ia (pc2 := 24) op159_23 (rn_shlt sp_116) sp_116 k5 rfl rfl ?_
      obtain ⟨k7, h⟩ := rq_chk h
      obtain ⟨m6, em6, h⟩ := rq_bv h
      refine rx_is (m2 := m6) (pc2 := 25) op159_24 sp_141 k7 rfl em6 rfl ?_
      obtain ⟨x8, ex8, h⟩ := rq_bv h
      refine rx_inc (w := 1) (v := x8) (L2 := [some (.ref 115), some (.int x8)]) (pc2 := 28) op159_25 rfl (by decide) ex8 rfl rfl ?_
      refine ry_go (tgt := 2) op159_28 (by decide) (by decide) ?_
      exact ih _ _ h
    · have h := (if_neg b4).symm.trans h
      cases h
      exact hr _ rfl _
set_option maxHeartbeats 4000000 in
set_option maxRecDepth 20000 in
theorem mo_takeRow_ok (xs : List Int32) {d : Nat} (hd : 3 ≤ d) {n : Nat} {m mO : rn_Mem} (h : mo_takeRow n  m = some mO) : rn_R xs d 159 0 (rn_ent 2 [.ref 115]) [] (rn_SH, m) none (rn_SH, mO) := by
  obtain ⟨d, rfl⟩ : ∃ e, d = e + 1 := ⟨d - 1, by omega⟩
  unfold mo_takeRow at h
  show rn_R xs (d + 1) 159 0 [some (.ref 115), none] [] (rn_SH, m) none (rn_SH, mO)
  refine rx_ic (v := 0) (pc2 := 1) op159_0 (by decide) rfl ?_
  refine rx_s (L2 := [some (.ref 115), some (.int 0)]) (pc2 := 2) op159_1 rfl rfl rfl ?_
  obtain ⟨m9, f16, h⟩ := rq_bind h
  refine mo_takeRow_l2_ok xs hd (fun m0 eq => ?_) _ _ _  f16
  subst eq
  try dsimp only at h
  intro o10
  refine rx_p (L2 := [some (.ref 115), o10]) (S2 := [.ref 115]) (pc2 := 32) op159_31 rfl rfl ?_
  refine rx_p (L2 := [some (.ref 115), o10]) (S2 := [.ref 115, .ref 115]) (pc2 := 33) op159_32 rfl rfl ?_
  refine rx_gf (v := .ref 141) (pc2 := 36) op159_33 sp_115 rfl rfl rfl ?_
  refine rx_p (L2 := [some (.ref 115), o10]) (S2 := [.ref 115, .ref 141, .ref 115]) (pc2 := 37) op159_36 rfl rfl ?_
  refine rx_gf (v := .ref 116) (pc2 := 40) op159_37 sp_115 rfl rfl rfl ?_
  refine rx_bp (v := 88) (pc2 := 42) op159_40 (by decide) rfl ?_
  refine rx_ia (j := 88) (pc2 := 43) op159_42 (rn_shlt sp_116) sp_116 (by decide) (by decide) rfl ?_
  refine rx_p (L2 := [some (.ref 115), o10]) (S2 := [.ref 115, .int (m9.1 116 88), .ref 141, .ref 115]) (pc2 := 44) op159_43 rfl rfl ?_
  obtain ⟨⟨r12, m11⟩, f13, h⟩ := rq_bind h
  try dsimp only at h
  refine ry_iv (p := 115) (vs := []) (T := [.int (m9.1 116 88), .ref 141, .ref 115]) (pc2 := 47) op159_44 ms_155 (by decide) rfl rfl (Nat.le_of_ble_eq_true rfl) (Nat.le_of_ble_eq_true rfl) sp_115 (mo_size_ok xs (by omega)  f13) rfl ?_
  show rn_R _ _ _ _ _ [.int r12, .int (m9.1 116 88), .ref 141, .ref 115] _ _ _
  obtain ⟨m14, f15, h⟩ := rq_bind h
  try dsimp only at h
  refine ry_iv (p := 115) (vs := [.ref 141, .int (m9.1 116 88), .int r12]) (T := []) (pc2 := 50) op159_47 ms_160 (by decide) rfl rfl (Nat.le_of_ble_eq_true rfl) (Nat.le_of_ble_eq_true rfl) sp_115 (mo_findLeaders_ok xs (by omega) sr_141 f15) rfl ?_
  show rn_R _ _ _ _ _ [] _ _ _
  obtain rfl := Option.some.inj h
  exact ry_rv op159_50 ms_159 rfl
/-! mo_sideWins -/
theorem op163_0 : rn_op 163 0 = some (.iconst 0, 1, 0, 0, 0) := by decide +kernel
theorem op163_1 : rn_op 163 1 = some (.istore_n 2, 1, 0, 0, 0) := by decide +kernel
theorem op163_2 : rn_op 163 2 = some (.iload_n 1, 1, 0, 0, 0) := by decide +kernel
theorem op163_3 : rn_op 163 3 = some (.istore_n 3, 1, 0, 0, 0) := by decide +kernel
theorem op163_4 : rn_op 163 4 = some (.iload_n 3, 1, 0, 0, 0) := by decide +kernel
theorem op163_5 : rn_op 163 5 = some (.aload_n 0, 1, 0, 0, 0) := by decide +kernel
theorem op163_6 : rn_op 163 6 = some (.getfield 7, 3, 11, 0, 3) := by decide +kernel
theorem op163_9 : rn_op 163 9 = some (.iconst 2, 1, 0, 0, 0) := by decide +kernel
theorem op163_10 : rn_op 163 10 = some (.iaload, 1, 0, 0, 0) := by decide +kernel
theorem op163_11 : rn_op 163 11 = some (.if_icmp .ge 28, 3, 0, 0, 0) := by decide +kernel
theorem op163_14 : rn_op 163 14 = some (.iload_n 2, 1, 0, 0, 0) := by decide +kernel
theorem op163_15 : rn_op 163 15 = some (.aload_n 0, 1, 0, 0, 0) := by decide +kernel
theorem op163_16 : rn_op 163 16 = some (.getfield 82, 3, 11, 37, 3) := by decide +kernel
theorem op163_19 : rn_op 163 19 = some (.iload_n 3, 1, 0, 0, 0) := by decide +kernel
theorem op163_20 : rn_op 163 20 = some (.iaload, 1, 0, 0, 0) := by decide +kernel
theorem op163_21 : rn_op 163 21 = some (.iconst 2, 1, 0, 0, 0) := by decide +kernel
theorem op163_22 : rn_op 163 22 = some (.irem, 1, 0, 0, 0) := by decide +kernel
theorem op163_23 : rn_op 163 23 = some (.ifCond .ne 7, 3, 0, 0, 0) := by decide +kernel
theorem op163_26 : rn_op 163 26 = some (.iconst 1, 1, 0, 0, 0) := by decide +kernel
theorem op163_27 : rn_op 163 27 = some (.goto 4, 3, 0, 0, 0) := by decide +kernel
theorem op163_30 : rn_op 163 30 = some (.iconst 0, 1, 0, 0, 0) := by decide +kernel
theorem op163_31 : rn_op 163 31 = some (.iadd, 1, 0, 0, 0) := by decide +kernel
theorem op163_32 : rn_op 163 32 = some (.istore_n 2, 1, 0, 0, 0) := by decide +kernel
theorem op163_33 : rn_op 163 33 = some (.iinc 3 1, 3, 0, 0, 0) := by decide +kernel
theorem op163_36 : rn_op 163 36 = some (.goto (-32), 3, 0, 0, 0) := by decide +kernel
theorem op163_39 : rn_op 163 39 = some (.iload_n 2, 1, 0, 0, 0) := by decide +kernel
theorem op163_40 : rn_op 163 40 = some (.ireturn, 1, 0, 0, 0) := by decide +kernel
def mo_sideWins_l4  : Nat → Int32 → Int32 → rn_Mem → Option (Int32 × rn_Mem)
  | 0, _, _, _ => none
  | n + 1, a2, a3, m =>
    if a3 < (m.1 116 2) then
      if rn_in a3 4 = true then
        (show Option (Int32) from
          if (rn_rem (m.1 140 a3.toNatClampNeg) 2) = 0 then
            some (1)
          else
            some (0)).bind fun x6 =>
        (some (a2 + x6)).bind fun (x8 : Int32) =>
        (some (a3 + 1)).bind fun (x9 : Int32) =>
        mo_sideWins_l4 n x8 x9 m
      else none
    else
      some (a2, m)
def mo_sideWins (n : Nat) (a1 : Int32) (m : rn_Mem) : Option (Int32 × rn_Mem) :=
  (mo_sideWins_l4 n 0 a1 m).bind fun (x14, m11) =>
  some (x14, m11)
set_option maxHeartbeats 4000000 in
set_option maxRecDepth 20000 in
theorem mo_sideWins_l4_ok (xs : List Int32) {d : Nat} {r : Option Value} {τ : rn_H} {out : Int32 × rn_Mem} (hr : ∀ (z2 : Int32) (mO : rn_Mem), out = (z2, mO) → ∀ (o0 o1 o3 : Option Value), rn_R xs d 163 39 [o0, o1, some (.int z2), o3] [] (rn_SH, mO) r τ) : ∀ (n : Nat) (a2 : Int32) (a3 : Int32) (o1 : Option Value) (m : rn_Mem), mo_sideWins_l4 n a2 a3 m = some out → rn_R xs d 163 4 [some (.ref 115), o1, some (.int a2), some (.int a3)] [] (rn_SH, m) r τ := by
  intro n
  induction n with
  | zero =>
    intro _ _ _ _ h
    cases h
  | succ n ih =>
    intro a2 a3 o1 m h
    unfold mo_sideWins_l4 at h
    try dsimp only at h
    refine rx_p (L2 := [some (.ref 115), o1, some (.int a2), some (.int a3)]) (S2 := [.int a3]) (pc2 := 5) op163_4 rfl rfl ?_
    refine rx_p (L2 := [some (.ref 115), o1, some (.int a2), some (.int a3)]) (S2 := [.ref 115, .int a3]) (pc2 := 6) op163_5 rfl rfl ?_
    refine rx_gf (v := .ref 116) (pc2 := 9) op163_6 sp_115 rfl rfl rfl ?_
    refine rx_ic (v := 2) (pc2 := 10) op163_9 (by decide) rfl ?_
    refine rx_ia (j := 2) (pc2 := 11) op163_10 (rn_shlt sp_116) sp_116 (by decide) (by decide) rfl ?_
    refine ry_ic_ge (tgt := 39) (pc2 := 14) op163_11 (by decide) (by decide) rfl (fun b1 => ?_) (fun b1 => ?_)
    · have h := (if_pos b1).symm.trans h
      refine rx_p (L2 := [some (.ref 115), o1, some (.int a2), some (.int a3)]) (S2 := [.int a2]) (pc2 := 15) op163_14 rfl rfl ?_
      refine rx_p (L2 := [some (.ref 115), o1, some (.int a2), some (.int a3)]) (S2 := [.ref 115, .int a2]) (pc2 := 16) op163_15 rfl rfl ?_
      refine rx_gf (v := .ref 140) (pc2 := 19) op163_16 sp_115 rfl rfl rfl ?_
      refine rx_p (L2 := [some (.ref 115), o1, some (.int a2), some (.int a3)]) (S2 := [.int a3, .ref 140, .int a2]) (pc2 := 20) op163_19 rfl rfl ?_
      obtain ⟨k2, h⟩ := rq_chk h
      refine rx_ia (pc2 := 21) op163_20 (rn_shlt sp_140) sp_140 k2 rfl rfl ?_
      refine rx_ic (v := 2) (pc2 := 22) op163_21 (by decide) rfl ?_
      refine rx_rem (v := rn_rem (m.1 140 a3.toNatClampNeg) 2) (pc2 := 23) op163_22 (by decide) rfl rfl ?_
      obtain ⟨x6, gc10, h⟩ := rq_bind h
      try dsimp only at h
      have c10 : ∀ (o4 o5 : Option Value), rn_R xs d 163 31 [some (.ref 115), o4, o5, some (.int a3)] [.int x6, .int a2] (rn_SH, m) r τ := by
        intro o4 o5
        refine rx_p (L2 := [some (.ref 115), o4, o5, some (.int a3)]) (S2 := [.int (a2 + x6)]) (pc2 := 32) op163_31 rfl rfl ?_
        obtain ⟨x8, ex8, h⟩ := rq_bv h
        refine rx_sd (v := x8) (j := 1) (pc2 := 33) op163_32 rfl ex8 (Nat.le_of_ble_eq_true rfl) rfl (fun o7 => ?_)
        show rn_R _ _ _ _ [some (.ref 115), o7, some (.int x8), some (.int a3)] _ _ _ _
        obtain ⟨x9, ex9, h⟩ := rq_bv h
        refine rx_inc (w := 1) (v := x9) (L2 := [some (.ref 115), o7, some (.int x8), some (.int x9)]) (pc2 := 36) op163_33 rfl (by decide) ex9 rfl rfl ?_
        refine ry_go (tgt := 4) op163_36 (by decide) (by decide) ?_
        exact ih _ _ _ _ h
      refine ry_if_ne (tgt := 30) (pc2 := 26) op163_23 (by decide) (by decide) rfl (fun b3 => ?_) (fun b3 => ?_)
      · have gc10 := (if_pos b3).symm.trans gc10
        refine rx_ic (v := 1) (pc2 := 27) op163_26 (by decide) rfl ?_
        refine ry_go (tgt := 31) op163_27 (by decide) (by decide) ?_
        cases gc10
        exact c10 _ _
      · have gc10 := (if_neg b3).symm.trans gc10
        refine rx_ic (v := 0) (pc2 := 31) op163_30 (by decide) rfl ?_
        cases gc10
        exact c10 _ _
    · have h := (if_neg b1).symm.trans h
      cases h
      exact hr _ _ rfl _ _ _
set_option maxHeartbeats 4000000 in
set_option maxRecDepth 20000 in
theorem mo_sideWins_ok (xs : List Int32) {d : Nat} (hd : 0 ≤ d) {n : Nat} {a1 : Int32} {m mO : rn_Mem} {rO : Int32} (h : mo_sideWins n a1 m = some (rO, mO)) : rn_R xs d 163 0 (rn_ent 4 [.ref 115, .int a1]) [] (rn_SH, m) (some (.int rO)) (rn_SH, mO) := by
  unfold mo_sideWins at h
  show rn_R xs d 163 0 [some (.ref 115), some (.int a1), none, none] [] (rn_SH, m) (some (.int rO)) (rn_SH, mO)
  refine rx_ic (v := 0) (pc2 := 1) op163_0 (by decide) rfl ?_
  refine rx_s (L2 := [some (.ref 115), some (.int a1), some (.int 0), none]) (pc2 := 2) op163_1 rfl rfl rfl ?_
  refine rx_p (L2 := [some (.ref 115), some (.int a1), some (.int 0), none]) (S2 := [.int a1]) (pc2 := 3) op163_2 rfl rfl ?_
  refine rx_s (L2 := [some (.ref 115), some (.int a1), some (.int 0), some (.int a1)]) (pc2 := 4) op163_3 rfl rfl rfl ?_
  obtain ⟨wf16, f16, h⟩ := rq_bind h
  refine mo_sideWins_l4_ok xs (fun x14 m11 eq => ?_) _ _ _ _ _  f16
  subst eq
  try dsimp only at h
  intro o12 o13 o15
  refine rx_p (L2 := [o12, o13, some (.int x14), o15]) (S2 := [.int x14]) (pc2 := 40) op163_39 rfl rfl ?_
  obtain ⟨rfl, rfl⟩ := rq_ret h
  exact ry_ri op163_40 ms_163 rfl
/-! mo_count -/
theorem op158_0 : rn_op 158 0 = some (.iload_n 1, 1, 0, 0, 0) := by decide +kernel
theorem op158_1 : rn_op 158 1 = some (.i2l, 1, 0, 0, 0) := by decide +kernel
theorem op158_2 : rn_op 158 2 = some (.lconst 0, 1, 0, 0, 0) := by decide +kernel
theorem op158_3 : rn_op 158 3 = some (.ldc2_w 340, 3, 2, 0, 0) := by decide +kernel
theorem op158_6 : rn_op 158 6 = some (.invokestatic 121, 3, 147, 3, 0) := by decide +kernel
theorem op158_9 : rn_op 158 9 = some (.ifCond .ne 5, 3, 0, 0, 0) := by decide +kernel
theorem op158_12 : rn_op 158 12 = some (.iconst (-1), 1, 0, 0, 0) := by decide +kernel
theorem op158_13 : rn_op 158 13 = some (.ireturn, 1, 0, 0, 0) := by decide +kernel
theorem op158_14 : rn_op 158 14 = some (.iload_n 1, 1, 0, 0, 0) := by decide +kernel
theorem op158_15 : rn_op 158 15 = some (.ifCond .ne 11, 3, 0, 0, 0) := by decide +kernel
theorem op158_18 : rn_op 158 18 = some (.aload_n 0, 1, 0, 0, 0) := by decide +kernel
theorem op158_19 : rn_op 158 19 = some (.getfield 7, 3, 11, 0, 3) := by decide +kernel
theorem op158_22 : rn_op 158 22 = some (.bipush 10, 2, 0, 0, 0) := by decide +kernel
theorem op158_24 : rn_op 158 24 = some (.iaload, 1, 0, 0, 0) := by decide +kernel
theorem op158_25 : rn_op 158 25 = some (.ireturn, 1, 0, 0, 0) := by decide +kernel
theorem op158_26 : rn_op 158 26 = some (.iconst 0, 1, 0, 0, 0) := by decide +kernel
theorem op158_27 : rn_op 158 27 = some (.istore_n 2, 1, 0, 0, 0) := by decide +kernel
theorem op158_28 : rn_op 158 28 = some (.iload_n 1, 1, 0, 0, 0) := by decide +kernel
theorem op158_29 : rn_op 158 29 = some (.iconst 1, 1, 0, 0, 0) := by decide +kernel
theorem op158_30 : rn_op 158 30 = some (.if_icmp .ne 83, 3, 0, 0, 0) := by decide +kernel
theorem op158_33 : rn_op 158 33 = some (.iconst 0, 1, 0, 0, 0) := by decide +kernel
theorem op158_34 : rn_op 158 34 = some (.istore_n 3, 1, 0, 0, 0) := by decide +kernel
theorem op158_35 : rn_op 158 35 = some (.iload_n 3, 1, 0, 0, 0) := by decide +kernel
theorem op158_36 : rn_op 158 36 = some (.aload_n 0, 1, 0, 0, 0) := by decide +kernel
theorem op158_37 : rn_op 158 37 = some (.getfield 7, 3, 11, 0, 3) := by decide +kernel
theorem op158_40 : rn_op 158 40 = some (.iconst 1, 1, 0, 0, 0) := by decide +kernel
theorem op158_41 : rn_op 158 41 = some (.iaload, 1, 0, 0, 0) := by decide +kernel
theorem op158_42 : rn_op 158 42 = some (.if_icmp .ge 69, 3, 0, 0, 0) := by decide +kernel
theorem op158_45 : rn_op 158 45 = some (.aload_n 0, 1, 0, 0, 0) := by decide +kernel
theorem op158_46 : rn_op 158 46 = some (.getfield 7, 3, 11, 0, 3) := by decide +kernel
theorem op158_49 : rn_op 158 49 = some (.bipush 9, 2, 0, 0, 0) := by decide +kernel
theorem op158_51 : rn_op 158 51 = some (.iaload, 1, 0, 0, 0) := by decide +kernel
theorem op158_52 : rn_op 158 52 = some (.iconst 1, 1, 0, 0, 0) := by decide +kernel
theorem op158_53 : rn_op 158 53 = some (.if_icmp .ne 58, 3, 0, 0, 0) := by decide +kernel
theorem op158_56 : rn_op 158 56 = some (.iconst 0, 1, 0, 0, 0) := by decide +kernel
theorem op158_57 : rn_op 158 57 = some (.istore 4, 2, 0, 0, 0) := by decide +kernel
theorem op158_59 : rn_op 158 59 = some (.iload 4, 2, 0, 0, 0) := by decide +kernel
theorem op158_61 : rn_op 158 61 = some (.aload_n 0, 1, 0, 0, 0) := by decide +kernel
theorem op158_62 : rn_op 158 62 = some (.getfield 7, 3, 11, 0, 3) := by decide +kernel
theorem op158_65 : rn_op 158 65 = some (.bipush 12, 2, 0, 0, 0) := by decide +kernel
theorem op158_67 : rn_op 158 67 = some (.iload_n 3, 1, 0, 0, 0) := by decide +kernel
theorem op158_68 : rn_op 158 68 = some (.iadd, 1, 0, 0, 0) := by decide +kernel
theorem op158_69 : rn_op 158 69 = some (.iaload, 1, 0, 0, 0) := by decide +kernel
theorem op158_70 : rn_op 158 70 = some (.if_icmp .ge 35, 3, 0, 0, 0) := by decide +kernel
theorem op158_73 : rn_op 158 73 = some (.iload_n 2, 1, 0, 0, 0) := by decide +kernel
theorem op158_74 : rn_op 158 74 = some (.aload_n 0, 1, 0, 0, 0) := by decide +kernel
theorem op158_75 : rn_op 158 75 = some (.getfield 7, 3, 11, 0, 3) := by decide +kernel
theorem op158_78 : rn_op 158 78 = some (.bipush 16, 2, 0, 0, 0) := by decide +kernel
theorem op158_80 : rn_op 158 80 = some (.bipush 12, 2, 0, 0, 0) := by decide +kernel
theorem op158_82 : rn_op 158 82 = some (.iload_n 3, 1, 0, 0, 0) := by decide +kernel
theorem op158_83 : rn_op 158 83 = some (.imul, 1, 0, 0, 0) := by decide +kernel
theorem op158_84 : rn_op 158 84 = some (.iadd, 1, 0, 0, 0) := by decide +kernel
theorem op158_85 : rn_op 158 85 = some (.iload 4, 2, 0, 0, 0) := by decide +kernel
theorem op158_87 : rn_op 158 87 = some (.iadd, 1, 0, 0, 0) := by decide +kernel
theorem op158_88 : rn_op 158 88 = some (.iaload, 1, 0, 0, 0) := by decide +kernel
theorem op158_89 : rn_op 158 89 = some (.ifCond .ge 7, 3, 0, 0, 0) := by decide +kernel
theorem op158_92 : rn_op 158 92 = some (.iconst 1, 1, 0, 0, 0) := by decide +kernel
theorem op158_93 : rn_op 158 93 = some (.goto 4, 3, 0, 0, 0) := by decide +kernel
theorem op158_96 : rn_op 158 96 = some (.iconst 0, 1, 0, 0, 0) := by decide +kernel
theorem op158_97 : rn_op 158 97 = some (.iadd, 1, 0, 0, 0) := by decide +kernel
theorem op158_98 : rn_op 158 98 = some (.istore_n 2, 1, 0, 0, 0) := by decide +kernel
theorem op158_99 : rn_op 158 99 = some (.iinc 4 1, 3, 0, 0, 0) := by decide +kernel
theorem op158_102 : rn_op 158 102 = some (.goto (-43), 3, 0, 0, 0) := by decide +kernel
theorem op158_105 : rn_op 158 105 = some (.iinc 3 1, 3, 0, 0, 0) := by decide +kernel
theorem op158_108 : rn_op 158 108 = some (.goto (-73), 3, 0, 0, 0) := by decide +kernel
theorem op158_111 : rn_op 158 111 = some (.iload_n 2, 1, 0, 0, 0) := by decide +kernel
theorem op158_112 : rn_op 158 112 = some (.ireturn, 1, 0, 0, 0) := by decide +kernel
theorem op158_113 : rn_op 158 113 = some (.aload_n 0, 1, 0, 0, 0) := by decide +kernel
theorem op158_114 : rn_op 158 114 = some (.getfield 7, 3, 11, 0, 3) := by decide +kernel
theorem op158_117 : rn_op 158 117 = some (.bipush 11, 2, 0, 0, 0) := by decide +kernel
theorem op158_119 : rn_op 158 119 = some (.iaload, 1, 0, 0, 0) := by decide +kernel
theorem op158_120 : rn_op 158 120 = some (.ifCond .ne 6, 3, 0, 0, 0) := by decide +kernel
theorem op158_123 : rn_op 158 123 = some (.bipush (-4), 2, 0, 0, 0) := by decide +kernel
theorem op158_125 : rn_op 158 125 = some (.ireturn, 1, 0, 0, 0) := by decide +kernel
theorem op158_126 : rn_op 158 126 = some (.aload_n 0, 1, 0, 0, 0) := by decide +kernel
theorem op158_127 : rn_op 158 127 = some (.invokevirtual 308, 3, 159, 1, 11) := by decide +kernel
theorem op158_130 : rn_op 158 130 = some (.aload_n 0, 1, 0, 0, 0) := by decide +kernel
theorem op158_131 : rn_op 158 131 = some (.iconst 0, 1, 0, 0, 0) := by decide +kernel
theorem op158_132 : rn_op 158 132 = some (.invokevirtual 318, 3, 163, 2, 11) := by decide +kernel
theorem op158_135 : rn_op 158 135 = some (.ireturn, 1, 0, 0, 0) := by decide +kernel
def mo_count_l59 (a3 : Int32) : Nat → Int32 → Int32 → rn_Mem → Option (Int32 × rn_Mem)
  | 0, _, _, _ => none
  | n + 1, a2, a4, m =>
    if rn_in ((12 : Int32) + a3) 101 = true then
      if a4 < (m.1 116 ((12 : Int32) + a3).toNatClampNeg) then
        if rn_in (((16 : Int32) + ((12 : Int32) * a3)) + a4) 101 = true then
          (show Option (Int32) from
            if (m.1 116 (((16 : Int32) + ((12 : Int32) * a3)) + a4).toNatClampNeg) < 0 then
              some (1)
            else
              some (0)).bind fun x15 =>
          (some (a2 + x15)).bind fun (x17 : Int32) =>
          (some (a4 + 1)).bind fun (x18 : Int32) =>
          mo_count_l59 a3 n x17 x18 m
        else none
      else
        some (a2, m)
    else none
def mo_count_l35  : Nat → Int32 → Int32 → rn_Mem → Option (Int32 × rn_Mem)
  | 0, _, _, _ => none
  | n + 1, a2, a3, m =>
    if a3 < (m.1 116 1) then
      if (m.1 116 9) = 1 then
        (mo_count_l59 a3 n a2 0 m).bind fun (x22, m20) =>
        (some (a3 + 1)).bind fun (x24 : Int32) =>
        mo_count_l35 n x22 x24 m20
      else
        some (a2, m)
    else
      some (a2, m)
def mo_count (n : Nat) (a1 : Int32) (m : rn_Mem) : Option (Int32 × rn_Mem) :=
  (mo_in n (a1.toInt64) 0 2 m).bind fun (r2, m1) =>
  if r2 = 0 then
    some ((-1), m1)
  else
    if a1 = 0 then
      some (m1.1 116 10, m1)
    else
      if a1 = 1 then
        (mo_count_l35 n 0 0 m1).bind fun (x29, m26) =>
        some (x29, m26)
      else
        if (m1.1 116 11) = 0 then
          some ((-4), m1)
        else
          (mo_takeRow n m1).bind fun m34 =>
          (mo_sideWins n 0 m34).bind fun (r37, m36) =>
          some (r37, m36)
set_option maxHeartbeats 4000000 in
set_option maxRecDepth 20000 in
theorem mo_count_l59_ok (xs : List Int32) {d : Nat} (hd : 4 ≤ d + 1) {a3 : Int32} {r : Option Value} {τ : rn_H} {out : Int32 × rn_Mem} (hr : ∀ (z2 : Int32) (mO : rn_Mem), out = (z2, mO) → ∀ (o1 o4 : Option Value), rn_R xs (d + 1) 158 105 [some (.ref 115), o1, some (.int z2), some (.int a3), o4] [] (rn_SH, mO) r τ) : ∀ (n : Nat) (a2 : Int32) (a4 : Int32) (o1 : Option Value) (m : rn_Mem), mo_count_l59 a3 n a2 a4 m = some out → rn_R xs (d + 1) 158 59 [some (.ref 115), o1, some (.int a2), some (.int a3), some (.int a4)] [] (rn_SH, m) r τ := by
  intro n
  induction n with
  | zero =>
    intro _ _ _ _ h
    cases h
  | succ n ih =>
    intro a2 a4 o1 m h
    unfold mo_count_l59 at h
    try dsimp only at h
    refine rx_p (L2 := [some (.ref 115), o1, some (.int a2), some (.int a3), some (.int a4)]) (S2 := [.int a4]) (pc2 := 61) op158_59 rfl rfl ?_
    refine rx_p (L2 := [some (.ref 115), o1, some (.int a2), some (.int a3), some (.int a4)]) (S2 := [.ref 115, .int a4]) (pc2 := 62) op158_61 rfl rfl ?_
    refine rx_gf (v := .ref 116) (pc2 := 65) op158_62 sp_115 rfl rfl rfl ?_
    refine rx_bp (v := 12) (pc2 := 67) op158_65 (by decide) rfl ?_
    refine rx_p (L2 := [some (.ref 115), o1, some (.int a2), some (.int a3), some (.int a4)]) (S2 := [.int a3, .int 12, .ref 116, .int a4]) (pc2 := 68) op158_67 rfl rfl ?_
    refine rx_p (L2 := [some (.ref 115), o1, some (.int a2), some (.int a3), some (.int a4)]) (S2 := [.int ((12 : Int32) + a3), .ref 116, .int a4]) (pc2 := 69) op158_68 rfl rfl ?_
    obtain ⟨k9, h⟩ := rq_chk h
    refine rx_ia (pc2 := 70) op158_69 (rn_shlt sp_116) sp_116 k9 rfl rfl ?_
    refine ry_ic_ge (tgt := 105) (pc2 := 73) op158_70 (by decide) (by decide) rfl (fun b10 => ?_) (fun b10 => ?_)
    · have h := (if_pos b10).symm.trans h
      refine rx_p (L2 := [some (.ref 115), o1, some (.int a2), some (.int a3), some (.int a4)]) (S2 := [.int a2]) (pc2 := 74) op158_73 rfl rfl ?_
      refine rx_p (L2 := [some (.ref 115), o1, some (.int a2), some (.int a3), some (.int a4)]) (S2 := [.ref 115, .int a2]) (pc2 := 75) op158_74 rfl rfl ?_
      refine rx_gf (v := .ref 116) (pc2 := 78) op158_75 sp_115 rfl rfl rfl ?_
      refine rx_bp (v := 16) (pc2 := 80) op158_78 (by decide) rfl ?_
      refine rx_bp (v := 12) (pc2 := 82) op158_80 (by decide) rfl ?_
      refine rx_p (L2 := [some (.ref 115), o1, some (.int a2), some (.int a3), some (.int a4)]) (S2 := [.int a3, .int 12, .int 16, .ref 116, .int a2]) (pc2 := 83) op158_82 rfl rfl ?_
      refine rx_p (L2 := [some (.ref 115), o1, some (.int a2), some (.int a3), some (.int a4)]) (S2 := [.int ((12 : Int32) * a3), .int 16, .ref 116, .int a2]) (pc2 := 84) op158_83 rfl rfl ?_
      refine rx_p (L2 := [some (.ref 115), o1, some (.int a2), some (.int a3), some (.int a4)]) (S2 := [.int ((16 : Int32) + ((12 : Int32) * a3)), .ref 116, .int a2]) (pc2 := 85) op158_84 rfl rfl ?_
      refine rx_p (L2 := [some (.ref 115), o1, some (.int a2), some (.int a3), some (.int a4)]) (S2 := [.int a4, .int ((16 : Int32) + ((12 : Int32) * a3)), .ref 116, .int a2]) (pc2 := 87) op158_85 rfl rfl ?_
      refine rx_p (L2 := [some (.ref 115), o1, some (.int a2), some (.int a3), some (.int a4)]) (S2 := [.int (((16 : Int32) + ((12 : Int32) * a3)) + a4), .ref 116, .int a2]) (pc2 := 88) op158_87 rfl rfl ?_
      obtain ⟨k11, h⟩ := rq_chk h
      refine rx_ia (pc2 := 89) op158_88 (rn_shlt sp_116) sp_116 k11 rfl rfl ?_
      obtain ⟨x15, gc19, h⟩ := rq_bind h
      try dsimp only at h
      have c19 : ∀ (o13 o14 : Option Value), rn_R xs (d + 1) 158 97 [some (.ref 115), o13, o14, some (.int a3), some (.int a4)] [.int x15, .int a2] (rn_SH, m) r τ := by
        intro o13 o14
        refine rx_p (L2 := [some (.ref 115), o13, o14, some (.int a3), some (.int a4)]) (S2 := [.int (a2 + x15)]) (pc2 := 98) op158_97 rfl rfl ?_
        obtain ⟨x17, ex17, h⟩ := rq_bv h
        refine rx_sd (v := x17) (j := 1) (pc2 := 99) op158_98 rfl ex17 (Nat.le_of_ble_eq_true rfl) rfl (fun o16 => ?_)
        show rn_R _ _ _ _ [some (.ref 115), o16, some (.int x17), some (.int a3), some (.int a4)] _ _ _ _
        obtain ⟨x18, ex18, h⟩ := rq_bv h
        refine rx_inc (w := 1) (v := x18) (L2 := [some (.ref 115), o16, some (.int x17), some (.int a3), some (.int x18)]) (pc2 := 102) op158_99 rfl (by decide) ex18 rfl rfl ?_
        refine ry_go (tgt := 59) op158_102 (by decide) (by decide) ?_
        exact ih _ _ _ _ h
      refine ry_if_ge (tgt := 96) (pc2 := 92) op158_89 (by decide) (by decide) rfl (fun b12 => ?_) (fun b12 => ?_)
      · have gc19 := (if_pos b12).symm.trans gc19
        refine rx_ic (v := 1) (pc2 := 93) op158_92 (by decide) rfl ?_
        refine ry_go (tgt := 97) op158_93 (by decide) (by decide) ?_
        cases gc19
        exact c19 _ _
      · have gc19 := (if_neg b12).symm.trans gc19
        refine rx_ic (v := 0) (pc2 := 97) op158_96 (by decide) rfl ?_
        cases gc19
        exact c19 _ _
    · have h := (if_neg b10).symm.trans h
      cases h
      exact hr _ _ rfl _ _
set_option maxHeartbeats 4000000 in
set_option maxRecDepth 20000 in
theorem mo_count_l35_ok (xs : List Int32) {d : Nat} (hd : 4 ≤ d + 1) {r : Option Value} {τ : rn_H} {out : Int32 × rn_Mem} (hr : ∀ (z2 : Int32) (mO : rn_Mem), out = (z2, mO) → ∀ (o0 o1 o3 o4 : Option Value), rn_R xs (d + 1) 158 111 [o0, o1, some (.int z2), o3, o4] [] (rn_SH, mO) r τ) : ∀ (n : Nat) (a2 : Int32) (a3 : Int32) (o1 o4 : Option Value) (m : rn_Mem), mo_count_l35 n a2 a3 m = some out → rn_R xs (d + 1) 158 35 [some (.ref 115), o1, some (.int a2), some (.int a3), o4] [] (rn_SH, m) r τ := by
  intro n
  induction n with
  | zero =>
    intro _ _ _ _ _ h
    cases h
  | succ n ih =>
    intro a2 a3 o1 o4 m h
    unfold mo_count_l35 at h
    try dsimp only at h
    refine rx_p (L2 := [some (.ref 115), o1, some (.int a2), some (.int a3), o4]) (S2 := [.int a3]) (pc2 := 36) op158_35 rfl rfl ?_
    refine rx_p (L2 := [some (.ref 115), o1, some (.int a2), some (.int a3), o4]) (S2 := [.ref 115, .int a3]) (pc2 := 37) op158_36 rfl rfl ?_
    refine rx_gf (v := .ref 116) (pc2 := 40) op158_37 sp_115 rfl rfl rfl ?_
    refine rx_ic (v := 1) (pc2 := 41) op158_40 (by decide) rfl ?_
    refine rx_ia (j := 1) (pc2 := 42) op158_41 (rn_shlt sp_116) sp_116 (by decide) (by decide) rfl ?_
    refine ry_ic_ge (tgt := 111) (pc2 := 45) op158_42 (by decide) (by decide) rfl (fun b7 => ?_) (fun b7 => ?_)
    · have h := (if_pos b7).symm.trans h
      refine rx_p (L2 := [some (.ref 115), o1, some (.int a2), some (.int a3), o4]) (S2 := [.ref 115]) (pc2 := 46) op158_45 rfl rfl ?_
      refine rx_gf (v := .ref 116) (pc2 := 49) op158_46 sp_115 rfl rfl rfl ?_
      refine rx_bp (v := 9) (pc2 := 51) op158_49 (by decide) rfl ?_
      refine rx_ia (j := 9) (pc2 := 52) op158_51 (rn_shlt sp_116) sp_116 (by decide) (by decide) rfl ?_
      refine rx_ic (v := 1) (pc2 := 53) op158_52 (by decide) rfl ?_
      refine ry_ic_ne (tgt := 111) (pc2 := 56) op158_53 (by decide) (by decide) rfl (fun b8 => ?_) (fun b8 => ?_)
      · have h := (if_pos b8).symm.trans h
        refine rx_ic (v := 0) (pc2 := 57) op158_56 (by decide) rfl ?_
        refine rx_s (L2 := [some (.ref 115), o1, some (.int a2), some (.int a3), some (.int 0)]) (pc2 := 59) op158_57 rfl rfl rfl ?_
        obtain ⟨wf25, f25, h⟩ := rq_bind h
        refine mo_count_l59_ok xs hd (fun x22 m20 eq => ?_) _ _ _ _ _  f25
        subst eq
        try dsimp only at h
        intro o21 o23
        obtain ⟨x24, ex24, h⟩ := rq_bv h
        refine rx_inc (w := 1) (v := x24) (L2 := [some (.ref 115), o21, some (.int x22), some (.int x24), o23]) (pc2 := 108) op158_105 rfl (by decide) ex24 rfl rfl ?_
        refine ry_go (tgt := 35) op158_108 (by decide) (by decide) ?_
        exact ih _ _ _ _ _ h
      · have h := (if_neg b8).symm.trans h
        cases h
        exact hr _ _ rfl _ _ _ _
    · have h := (if_neg b7).symm.trans h
      cases h
      exact hr _ _ rfl _ _ _ _
set_option maxHeartbeats 4000000 in
set_option maxRecDepth 20000 in
theorem mo_count_ok (xs : List Int32) {d : Nat} (hd : 4 ≤ d) {n : Nat} {a1 : Int32} {m mO : rn_Mem} {rO : Int32} (h : mo_count n a1 m = some (rO, mO)) : rn_R xs d 158 0 (rn_ent 5 [.ref 115, .int a1]) [] (rn_SH, m) (some (.int rO)) (rn_SH, mO) := by
  obtain ⟨d, rfl⟩ : ∃ e, d = e + 1 := ⟨d - 1, by omega⟩
  unfold mo_count at h
  show rn_R xs (d + 1) 158 0 [some (.ref 115), some (.int a1), none, none, none] [] (rn_SH, m) (some (.int rO)) (rn_SH, mO)
  refine rx_p (L2 := [some (.ref 115), some (.int a1), none, none, none]) (S2 := [.int a1]) (pc2 := 1) op158_0 rfl rfl ?_
  refine rx_p (L2 := [some (.ref 115), some (.int a1), none, none, none]) (S2 := [.long (a1.toInt64)]) (pc2 := 2) op158_1 rfl rfl ?_
  refine rx_lc (v := 0) (pc2 := 3) op158_2 (by decide) rfl ?_
  refine rx_ld2 (v := 2) (pc2 := 6) op158_3 (by decide) rfl ?_
  obtain ⟨⟨r2, m1⟩, f3, h⟩ := rq_bind h
  try dsimp only at h
  refine ry_is (vs := [.long (a1.toInt64), .long 0, .long 2]) (T := []) (pc2 := 9) op158_6 (by decide) ms_147 (by decide) rfl rfl (Nat.le_of_ble_eq_true rfl) (Nat.le_of_ble_eq_true rfl) (mo_in_ok xs (by omega)  f3) rfl ?_
  show rn_R _ _ _ _ _ [.int r2] _ _ _
  refine ry_if_ne (tgt := 14) (pc2 := 12) op158_9 (by decide) (by decide) rfl (fun b4 => ?_) (fun b4 => ?_)
  · have h := (if_pos b4).symm.trans h
    refine rx_ic (v := (-1)) (pc2 := 13) op158_12 (by decide) rfl ?_
    obtain ⟨rfl, rfl⟩ := rq_ret h
    exact ry_ri op158_13 ms_158 rfl
  · have h := (if_neg b4).symm.trans h
    refine rx_p (L2 := [some (.ref 115), some (.int a1), none, none, none]) (S2 := [.int a1]) (pc2 := 15) op158_14 rfl rfl ?_
    refine ry_if_ne (tgt := 26) (pc2 := 18) op158_15 (by decide) (by decide) rfl (fun b5 => ?_) (fun b5 => ?_)
    · have h := (if_pos b5).symm.trans h
      refine rx_p (L2 := [some (.ref 115), some (.int a1), none, none, none]) (S2 := [.ref 115]) (pc2 := 19) op158_18 rfl rfl ?_
      refine rx_gf (v := .ref 116) (pc2 := 22) op158_19 sp_115 rfl rfl rfl ?_
      refine rx_bp (v := 10) (pc2 := 24) op158_22 (by decide) rfl ?_
      refine rx_ia (j := 10) (pc2 := 25) op158_24 (rn_shlt sp_116) sp_116 (by decide) (by decide) rfl ?_
      obtain ⟨rfl, rfl⟩ := rq_ret h
      exact ry_ri op158_25 ms_158 rfl
    · have h := (if_neg b5).symm.trans h
      refine rx_ic (v := 0) (pc2 := 27) op158_26 (by decide) rfl ?_
      refine rx_s (L2 := [some (.ref 115), some (.int a1), some (.int 0), none, none]) (pc2 := 28) op158_27 rfl rfl rfl ?_
      refine rx_p (L2 := [some (.ref 115), some (.int a1), some (.int 0), none, none]) (S2 := [.int a1]) (pc2 := 29) op158_28 rfl rfl ?_
      refine rx_ic (v := 1) (pc2 := 30) op158_29 (by decide) rfl ?_
      refine ry_ic_ne (tgt := 113) (pc2 := 33) op158_30 (by decide) (by decide) rfl (fun b6 => ?_) (fun b6 => ?_)
      · have h := (if_pos b6).symm.trans h
        refine rx_ic (v := 0) (pc2 := 34) op158_33 (by decide) rfl ?_
        refine rx_s (L2 := [some (.ref 115), some (.int a1), some (.int 0), some (.int 0), none]) (pc2 := 35) op158_34 rfl rfl rfl ?_
        obtain ⟨wf32, f32, h⟩ := rq_bind h
        refine mo_count_l35_ok xs hd (fun x29 m26 eq => ?_) _ _ _ _ _ _  f32
        subst eq
        try dsimp only at h
        intro o27 o28 o30 o31
        refine rx_p (L2 := [o27, o28, some (.int x29), o30, o31]) (S2 := [.int x29]) (pc2 := 112) op158_111 rfl rfl ?_
        obtain ⟨rfl, rfl⟩ := rq_ret h
        exact ry_ri op158_112 ms_158 rfl
      · have h := (if_neg b6).symm.trans h
        refine rx_p (L2 := [some (.ref 115), some (.int a1), some (.int 0), none, none]) (S2 := [.ref 115]) (pc2 := 114) op158_113 rfl rfl ?_
        refine rx_gf (v := .ref 116) (pc2 := 117) op158_114 sp_115 rfl rfl rfl ?_
        refine rx_bp (v := 11) (pc2 := 119) op158_117 (by decide) rfl ?_
        refine rx_ia (j := 11) (pc2 := 120) op158_119 (rn_shlt sp_116) sp_116 (by decide) (by decide) rfl ?_
        refine ry_if_ne (tgt := 126) (pc2 := 123) op158_120 (by decide) (by decide) rfl (fun b33 => ?_) (fun b33 => ?_)
        · have h := (if_pos b33).symm.trans h
          refine rx_bp (v := (-4)) (pc2 := 125) op158_123 (by decide) rfl ?_
          obtain ⟨rfl, rfl⟩ := rq_ret h
          exact ry_ri op158_125 ms_158 rfl
        · have h := (if_neg b33).symm.trans h
          refine rx_p (L2 := [some (.ref 115), some (.int a1), some (.int 0), none, none]) (S2 := [.ref 115]) (pc2 := 127) op158_126 rfl rfl ?_
          obtain ⟨m34, f35, h⟩ := rq_bind h
          try dsimp only at h
          refine ry_iv (p := 115) (vs := []) (T := []) (pc2 := 130) op158_127 ms_159 (by decide) rfl rfl (Nat.le_of_ble_eq_true rfl) (Nat.le_of_ble_eq_true rfl) sp_115 (mo_takeRow_ok xs (by omega)  f35) rfl ?_
          show rn_R _ _ _ _ _ [] _ _ _
          refine rx_p (L2 := [some (.ref 115), some (.int a1), some (.int 0), none, none]) (S2 := [.ref 115]) (pc2 := 131) op158_130 rfl rfl ?_
          refine rx_ic (v := 0) (pc2 := 132) op158_131 (by decide) rfl ?_
          obtain ⟨⟨r37, m36⟩, f38, h⟩ := rq_bind h
          try dsimp only at h
          refine ry_iv (p := 115) (vs := [.int 0]) (T := []) (pc2 := 135) op158_132 ms_163 (by decide) rfl rfl (Nat.le_of_ble_eq_true rfl) (Nat.le_of_ble_eq_true rfl) sp_115 (mo_sideWins_ok xs (by omega)  f38) rfl ?_
          show rn_R _ _ _ _ _ [.int r37] _ _ _
          obtain ⟨rfl, rfl⟩ := rq_ret h
          exact ry_ri op158_135 ms_158 rfl
/-! mo_table -/
theorem op156_0 : rn_op 156 0 = some (.aload_n 0, 1, 0, 0, 0) := by decide +kernel
theorem op156_1 : rn_op 156 1 = some (.getfield 7, 3, 11, 0, 3) := by decide +kernel
theorem op156_4 : rn_op 156 4 = some (.iconst 0, 1, 0, 0, 0) := by decide +kernel
theorem op156_5 : rn_op 156 5 = some (.iaload, 1, 0, 0, 0) := by decide +kernel
theorem op156_6 : rn_op 156 6 = some (.ifCond .ne 11, 3, 0, 0, 0) := by decide +kernel
theorem op156_9 : rn_op 156 9 = some (.aload_n 0, 1, 0, 0, 0) := by decide +kernel
theorem op156_10 : rn_op 156 10 = some (.iconst 0, 1, 0, 0, 0) := by decide +kernel
theorem op156_11 : rn_op 156 11 = some (.putfield 135, 3, 11, 2, 0) := by decide +kernel
theorem op156_14 : rn_op 156 14 = some (.bipush (-2), 2, 0, 0, 0) := by decide +kernel
theorem op156_16 : rn_op 156 16 = some (.ireturn, 1, 0, 0, 0) := by decide +kernel
theorem op156_17 : rn_op 156 17 = some (.aload_n 0, 1, 0, 0, 0) := by decide +kernel
theorem op156_18 : rn_op 156 18 = some (.invokevirtual 170, 3, 157, 1, 11) := by decide +kernel
theorem op156_21 : rn_op 156 21 = some (.istore_n 1, 1, 0, 0, 0) := by decide +kernel
theorem op156_22 : rn_op 156 22 = some (.aload_n 0, 1, 0, 0, 0) := by decide +kernel
theorem op156_23 : rn_op 156 23 = some (.iconst 0, 1, 0, 0, 0) := by decide +kernel
theorem op156_24 : rn_op 156 24 = some (.putfield 135, 3, 11, 2, 0) := by decide +kernel
theorem op156_27 : rn_op 156 27 = some (.iload_n 1, 1, 0, 0, 0) := by decide +kernel
theorem op156_28 : rn_op 156 28 = some (.ifCond .ne 11, 3, 0, 0, 0) := by decide +kernel
theorem op156_31 : rn_op 156 31 = some (.bipush (-20), 2, 0, 0, 0) := by decide +kernel
theorem op156_33 : rn_op 156 33 = some (.aload_n 0, 1, 0, 0, 0) := by decide +kernel
theorem op156_34 : rn_op 156 34 = some (.getfield 139, 3, 11, 3, 0) := by decide +kernel
theorem op156_37 : rn_op 156 37 = some (.isub, 1, 0, 0, 0) := by decide +kernel
theorem op156_38 : rn_op 156 38 = some (.ireturn, 1, 0, 0, 0) := by decide +kernel
theorem op156_39 : rn_op 156 39 = some (.iconst 0, 1, 0, 0, 0) := by decide +kernel
theorem op156_40 : rn_op 156 40 = some (.istore_n 2, 1, 0, 0, 0) := by decide +kernel
theorem op156_41 : rn_op 156 41 = some (.iload_n 2, 1, 0, 0, 0) := by decide +kernel
theorem op156_42 : rn_op 156 42 = some (.aload_n 0, 1, 0, 0, 0) := by decide +kernel
theorem op156_43 : rn_op 156 43 = some (.getfield 7, 3, 11, 0, 3) := by decide +kernel
theorem op156_46 : rn_op 156 46 = some (.iconst 1, 1, 0, 0, 0) := by decide +kernel
theorem op156_47 : rn_op 156 47 = some (.iaload, 1, 0, 0, 0) := by decide +kernel
theorem op156_48 : rn_op 156 48 = some (.if_icmp .ge 69, 3, 0, 0, 0) := by decide +kernel
theorem op156_51 : rn_op 156 51 = some (.aload_n 0, 1, 0, 0, 0) := by decide +kernel
theorem op156_52 : rn_op 156 52 = some (.getfield 7, 3, 11, 0, 3) := by decide +kernel
theorem op156_55 : rn_op 156 55 = some (.bipush 12, 2, 0, 0, 0) := by decide +kernel
theorem op156_57 : rn_op 156 57 = some (.iload_n 2, 1, 0, 0, 0) := by decide +kernel
theorem op156_58 : rn_op 156 58 = some (.iadd, 1, 0, 0, 0) := by decide +kernel
theorem op156_59 : rn_op 156 59 = some (.aload_n 0, 1, 0, 0, 0) := by decide +kernel
theorem op156_60 : rn_op 156 60 = some (.getfield 16, 3, 11, 4, 3) := by decide +kernel
theorem op156_63 : rn_op 156 63 = some (.iload_n 2, 1, 0, 0, 0) := by decide +kernel
theorem op156_64 : rn_op 156 64 = some (.iaload, 1, 0, 0, 0) := by decide +kernel
theorem op156_65 : rn_op 156 65 = some (.iastore, 1, 0, 0, 0) := by decide +kernel
theorem op156_66 : rn_op 156 66 = some (.iconst 0, 1, 0, 0, 0) := by decide +kernel
theorem op156_67 : rn_op 156 67 = some (.istore_n 3, 1, 0, 0, 0) := by decide +kernel
theorem op156_68 : rn_op 156 68 = some (.iload_n 3, 1, 0, 0, 0) := by decide +kernel
theorem op156_69 : rn_op 156 69 = some (.aload_n 0, 1, 0, 0, 0) := by decide +kernel
theorem op156_70 : rn_op 156 70 = some (.getfield 16, 3, 11, 4, 3) := by decide +kernel
theorem op156_73 : rn_op 156 73 = some (.iload_n 2, 1, 0, 0, 0) := by decide +kernel
theorem op156_74 : rn_op 156 74 = some (.iaload, 1, 0, 0, 0) := by decide +kernel
theorem op156_75 : rn_op 156 75 = some (.if_icmp .ge 36, 3, 0, 0, 0) := by decide +kernel
theorem op156_78 : rn_op 156 78 = some (.aload_n 0, 1, 0, 0, 0) := by decide +kernel
theorem op156_79 : rn_op 156 79 = some (.getfield 7, 3, 11, 0, 3) := by decide +kernel
theorem op156_82 : rn_op 156 82 = some (.bipush 16, 2, 0, 0, 0) := by decide +kernel
theorem op156_84 : rn_op 156 84 = some (.bipush 12, 2, 0, 0, 0) := by decide +kernel
theorem op156_86 : rn_op 156 86 = some (.iload_n 2, 1, 0, 0, 0) := by decide +kernel
theorem op156_87 : rn_op 156 87 = some (.imul, 1, 0, 0, 0) := by decide +kernel
theorem op156_88 : rn_op 156 88 = some (.iadd, 1, 0, 0, 0) := by decide +kernel
theorem op156_89 : rn_op 156 89 = some (.iload_n 3, 1, 0, 0, 0) := by decide +kernel
theorem op156_90 : rn_op 156 90 = some (.iadd, 1, 0, 0, 0) := by decide +kernel
theorem op156_91 : rn_op 156 91 = some (.aload_n 0, 1, 0, 0, 0) := by decide +kernel
theorem op156_92 : rn_op 156 92 = some (.getfield 16, 3, 11, 4, 3) := by decide +kernel
theorem op156_95 : rn_op 156 95 = some (.iconst 4, 1, 0, 0, 0) := by decide +kernel
theorem op156_96 : rn_op 156 96 = some (.bipush 12, 2, 0, 0, 0) := by decide +kernel
theorem op156_98 : rn_op 156 98 = some (.iload_n 2, 1, 0, 0, 0) := by decide +kernel
theorem op156_99 : rn_op 156 99 = some (.imul, 1, 0, 0, 0) := by decide +kernel
theorem op156_100 : rn_op 156 100 = some (.iadd, 1, 0, 0, 0) := by decide +kernel
theorem op156_101 : rn_op 156 101 = some (.iload_n 3, 1, 0, 0, 0) := by decide +kernel
theorem op156_102 : rn_op 156 102 = some (.iadd, 1, 0, 0, 0) := by decide +kernel
theorem op156_103 : rn_op 156 103 = some (.iaload, 1, 0, 0, 0) := by decide +kernel
theorem op156_104 : rn_op 156 104 = some (.iastore, 1, 0, 0, 0) := by decide +kernel
theorem op156_105 : rn_op 156 105 = some (.iinc 3 1, 3, 0, 0, 0) := by decide +kernel
theorem op156_108 : rn_op 156 108 = some (.goto (-40), 3, 0, 0, 0) := by decide +kernel
theorem op156_111 : rn_op 156 111 = some (.iinc 2 1, 3, 0, 0, 0) := by decide +kernel
theorem op156_114 : rn_op 156 114 = some (.goto (-73), 3, 0, 0, 0) := by decide +kernel
theorem op156_117 : rn_op 156 117 = some (.aload_n 0, 1, 0, 0, 0) := by decide +kernel
theorem op156_118 : rn_op 156 118 = some (.getfield 7, 3, 11, 0, 3) := by decide +kernel
theorem op156_121 : rn_op 156 121 = some (.bipush 9, 2, 0, 0, 0) := by decide +kernel
theorem op156_123 : rn_op 156 123 = some (.iconst 1, 1, 0, 0, 0) := by decide +kernel
theorem op156_124 : rn_op 156 124 = some (.iastore, 1, 0, 0, 0) := by decide +kernel
theorem op156_125 : rn_op 156 125 = some (.aload_n 0, 1, 0, 0, 0) := by decide +kernel
theorem op156_126 : rn_op 156 126 = some (.iconst 1, 1, 0, 0, 0) := by decide +kernel
theorem op156_127 : rn_op 156 127 = some (.invokevirtual 173, 3, 158, 2, 11) := by decide +kernel
theorem op156_130 : rn_op 156 130 = some (.ireturn, 1, 0, 0, 0) := by decide +kernel
def mo_table_l68 (a2 : Int32) : Nat → Int32 → rn_Mem → Option (rn_Mem)
  | 0, _, _ => none
  | n + 1, a3, m =>
    if rn_in a2 64 = true then
      if a3 < (m.1 118 a2.toNatClampNeg) then
        if rn_in (((4 : Int32) + ((12 : Int32) * a2)) + a3) 64 = true then
          if rn_in (((16 : Int32) + ((12 : Int32) * a2)) + a3) 101 = true then
            (some (rm_i m 116 (((16 : Int32) + ((12 : Int32) * a2)) + a3).toNatClampNeg (m.1 118 (((4 : Int32) + ((12 : Int32) * a2)) + a3).toNatClampNeg))).bind fun (m15 : rn_Mem) =>
            (some (a3 + 1)).bind fun (x17 : Int32) =>
            mo_table_l68 a2 n x17 m15
          else none
        else none
      else
        some m
    else none
def mo_table_l41  : Nat → Int32 → rn_Mem → Option (rn_Mem)
  | 0, _, _ => none
  | n + 1, a2, m =>
    if a2 < (m.1 116 1) then
      if rn_in a2 64 = true then
        if rn_in ((12 : Int32) + a2) 101 = true then
          (some (rm_i m 116 ((12 : Int32) + a2).toNatClampNeg (m.1 118 a2.toNatClampNeg))).bind fun (m10 : rn_Mem) =>
          (mo_table_l68 a2 n 0 m10).bind fun m18 =>
          (some (a2 + 1)).bind fun (x21 : Int32) =>
          mo_table_l41 n x21 m18
        else none
      else none
    else
      some m
def mo_table (n : Nat)  (m : rn_Mem) : Option (Int32 × rn_Mem) :=
  if (m.1 116 0) = 0 then
    (some (rm_i m 115 2 0)).bind fun (m2 : rn_Mem) =>
    some ((-2), m2)
  else
    (mo_readTable n m).bind fun (r4, m3) =>
    (some (rm_i m3 115 2 0)).bind fun (m6 : rn_Mem) =>
    if r4 = 0 then
      some (((-20) : Int32) - (m6.1 115 3), m6)
    else
      (mo_table_l41 n 0 m6).bind fun m24 =>
      (some (rm_i m24 116 9 1)).bind fun (m28 : rn_Mem) =>
      (mo_count n 1 m28).bind fun (r30, m29) =>
      some (r30, m29)
set_option maxHeartbeats 4000000 in
set_option maxRecDepth 20000 in
theorem mo_table_l68_ok (xs : List Int32) {d : Nat} (hd : 5 ≤ d + 1) {a2 : Int32} {r : Option Value} {τ : rn_H} {out : rn_Mem} (hr : ∀ (mO : rn_Mem), out = mO → ∀ (o1 o3 : Option Value), rn_R xs (d + 1) 156 111 [some (.ref 115), o1, some (.int a2), o3] [] (rn_SH, mO) r τ) : ∀ (n : Nat) (a3 : Int32) (o1 : Option Value) (m : rn_Mem), mo_table_l68 a2 n a3 m = some out → rn_R xs (d + 1) 156 68 [some (.ref 115), o1, some (.int a2), some (.int a3)] [] (rn_SH, m) r τ := by
  intro n
  induction n with
  | zero =>
    intro _ _ _ h
    cases h
  | succ n ih =>
    intro a3 o1 m h
    unfold mo_table_l68 at h
    try dsimp only at h
    refine rx_p (L2 := [some (.ref 115), o1, some (.int a2), some (.int a3)]) (S2 := [.int a3]) (pc2 := 69) op156_68 rfl rfl ?_
    refine rx_p (L2 := [some (.ref 115), o1, some (.int a2), some (.int a3)]) (S2 := [.ref 115, .int a3]) (pc2 := 70) op156_69 rfl rfl ?_
    refine rx_gf (v := .ref 118) (pc2 := 73) op156_70 sp_115 rfl rfl rfl ?_
    refine rx_p (L2 := [some (.ref 115), o1, some (.int a2), some (.int a3)]) (S2 := [.int a2, .ref 118, .int a3]) (pc2 := 74) op156_73 rfl rfl ?_
    obtain ⟨k12, h⟩ := rq_chk h
    refine rx_ia (pc2 := 75) op156_74 (rn_shlt sp_118) sp_118 k12 rfl rfl ?_
    refine ry_ic_ge (tgt := 111) (pc2 := 78) op156_75 (by decide) (by decide) rfl (fun b13 => ?_) (fun b13 => ?_)
    · have h := (if_pos b13).symm.trans h
      refine rx_p (L2 := [some (.ref 115), o1, some (.int a2), some (.int a3)]) (S2 := [.ref 115]) (pc2 := 79) op156_78 rfl rfl ?_
      refine rx_gf (v := .ref 116) (pc2 := 82) op156_79 sp_115 rfl rfl rfl ?_
      refine rx_bp (v := 16) (pc2 := 84) op156_82 (by decide) rfl ?_
      refine rx_bp (v := 12) (pc2 := 86) op156_84 (by decide) rfl ?_
      refine rx_p (L2 := [some (.ref 115), o1, some (.int a2), some (.int a3)]) (S2 := [.int a2, .int 12, .int 16, .ref 116]) (pc2 := 87) op156_86 rfl rfl ?_
      refine rx_p (L2 := [some (.ref 115), o1, some (.int a2), some (.int a3)]) (S2 := [.int ((12 : Int32) * a2), .int 16, .ref 116]) (pc2 := 88) op156_87 rfl rfl ?_
      refine rx_p (L2 := [some (.ref 115), o1, some (.int a2), some (.int a3)]) (S2 := [.int ((16 : Int32) + ((12 : Int32) * a2)), .ref 116]) (pc2 := 89) op156_88 rfl rfl ?_
      refine rx_p (L2 := [some (.ref 115), o1, some (.int a2), some (.int a3)]) (S2 := [.int a3, .int ((16 : Int32) + ((12 : Int32) * a2)), .ref 116]) (pc2 := 90) op156_89 rfl rfl ?_
      refine rx_p (L2 := [some (.ref 115), o1, some (.int a2), some (.int a3)]) (S2 := [.int (((16 : Int32) + ((12 : Int32) * a2)) + a3), .ref 116]) (pc2 := 91) op156_90 rfl rfl ?_
      refine rx_p (L2 := [some (.ref 115), o1, some (.int a2), some (.int a3)]) (S2 := [.ref 115, .int (((16 : Int32) + ((12 : Int32) * a2)) + a3), .ref 116]) (pc2 := 92) op156_91 rfl rfl ?_
      refine rx_gf (v := .ref 118) (pc2 := 95) op156_92 sp_115 rfl rfl rfl ?_
      refine rx_ic (v := 4) (pc2 := 96) op156_95 (by decide) rfl ?_
      refine rx_bp (v := 12) (pc2 := 98) op156_96 (by decide) rfl ?_
      refine rx_p (L2 := [some (.ref 115), o1, some (.int a2), some (.int a3)]) (S2 := [.int a2, .int 12, .int 4, .ref 118, .int (((16 : Int32) + ((12 : Int32) * a2)) + a3), .ref 116]) (pc2 := 99) op156_98 rfl rfl ?_
      refine rx_p (L2 := [some (.ref 115), o1, some (.int a2), some (.int a3)]) (S2 := [.int ((12 : Int32) * a2), .int 4, .ref 118, .int (((16 : Int32) + ((12 : Int32) * a2)) + a3), .ref 116]) (pc2 := 100) op156_99 rfl rfl ?_
      refine rx_p (L2 := [some (.ref 115), o1, some (.int a2), some (.int a3)]) (S2 := [.int ((4 : Int32) + ((12 : Int32) * a2)), .ref 118, .int (((16 : Int32) + ((12 : Int32) * a2)) + a3), .ref 116]) (pc2 := 101) op156_100 rfl rfl ?_
      refine rx_p (L2 := [some (.ref 115), o1, some (.int a2), some (.int a3)]) (S2 := [.int a3, .int ((4 : Int32) + ((12 : Int32) * a2)), .ref 118, .int (((16 : Int32) + ((12 : Int32) * a2)) + a3), .ref 116]) (pc2 := 102) op156_101 rfl rfl ?_
      refine rx_p (L2 := [some (.ref 115), o1, some (.int a2), some (.int a3)]) (S2 := [.int (((4 : Int32) + ((12 : Int32) * a2)) + a3), .ref 118, .int (((16 : Int32) + ((12 : Int32) * a2)) + a3), .ref 116]) (pc2 := 103) op156_102 rfl rfl ?_
      obtain ⟨k14, h⟩ := rq_chk h
      refine rx_ia (pc2 := 104) op156_103 (rn_shlt sp_118) sp_118 k14 rfl rfl ?_
      obtain ⟨k16, h⟩ := rq_chk h
      obtain ⟨m15, em15, h⟩ := rq_bv h
      refine rx_is (m2 := m15) (pc2 := 105) op156_104 sp_116 k16 rfl em15 rfl ?_
      obtain ⟨x17, ex17, h⟩ := rq_bv h
      refine rx_inc (w := 1) (v := x17) (L2 := [some (.ref 115), o1, some (.int a2), some (.int x17)]) (pc2 := 108) op156_105 rfl (by decide) ex17 rfl rfl ?_
      refine ry_go (tgt := 68) op156_108 (by decide) (by decide) ?_
      exact ih _ _ _ h
    · have h := (if_neg b13).symm.trans h
      cases h
      exact hr _ rfl _ _
set_option maxHeartbeats 4000000 in
set_option maxRecDepth 20000 in
theorem mo_table_l41_ok (xs : List Int32) {d : Nat} (hd : 5 ≤ d + 1) {r : Option Value} {τ : rn_H} {out : rn_Mem} (hr : ∀ (mO : rn_Mem), out = mO → ∀ (o1 o2 o3 : Option Value), rn_R xs (d + 1) 156 117 [some (.ref 115), o1, o2, o3] [] (rn_SH, mO) r τ) : ∀ (n : Nat) (a2 : Int32) (o1 o3 : Option Value) (m : rn_Mem), mo_table_l41 n a2 m = some out → rn_R xs (d + 1) 156 41 [some (.ref 115), o1, some (.int a2), o3] [] (rn_SH, m) r τ := by
  intro n
  induction n with
  | zero =>
    intro _ _ _ _ h
    cases h
  | succ n ih =>
    intro a2 o1 o3 m h
    unfold mo_table_l41 at h
    try dsimp only at h
    refine rx_p (L2 := [some (.ref 115), o1, some (.int a2), o3]) (S2 := [.int a2]) (pc2 := 42) op156_41 rfl rfl ?_
    refine rx_p (L2 := [some (.ref 115), o1, some (.int a2), o3]) (S2 := [.ref 115, .int a2]) (pc2 := 43) op156_42 rfl rfl ?_
    refine rx_gf (v := .ref 116) (pc2 := 46) op156_43 sp_115 rfl rfl rfl ?_
    refine rx_ic (v := 1) (pc2 := 47) op156_46 (by decide) rfl ?_
    refine rx_ia (j := 1) (pc2 := 48) op156_47 (rn_shlt sp_116) sp_116 (by decide) (by decide) rfl ?_
    refine ry_ic_ge (tgt := 117) (pc2 := 51) op156_48 (by decide) (by decide) rfl (fun b8 => ?_) (fun b8 => ?_)
    · have h := (if_pos b8).symm.trans h
      refine rx_p (L2 := [some (.ref 115), o1, some (.int a2), o3]) (S2 := [.ref 115]) (pc2 := 52) op156_51 rfl rfl ?_
      refine rx_gf (v := .ref 116) (pc2 := 55) op156_52 sp_115 rfl rfl rfl ?_
      refine rx_bp (v := 12) (pc2 := 57) op156_55 (by decide) rfl ?_
      refine rx_p (L2 := [some (.ref 115), o1, some (.int a2), o3]) (S2 := [.int a2, .int 12, .ref 116]) (pc2 := 58) op156_57 rfl rfl ?_
      refine rx_p (L2 := [some (.ref 115), o1, some (.int a2), o3]) (S2 := [.int ((12 : Int32) + a2), .ref 116]) (pc2 := 59) op156_58 rfl rfl ?_
      refine rx_p (L2 := [some (.ref 115), o1, some (.int a2), o3]) (S2 := [.ref 115, .int ((12 : Int32) + a2), .ref 116]) (pc2 := 60) op156_59 rfl rfl ?_
      refine rx_gf (v := .ref 118) (pc2 := 63) op156_60 sp_115 rfl rfl rfl ?_
      refine rx_p (L2 := [some (.ref 115), o1, some (.int a2), o3]) (S2 := [.int a2, .ref 118, .int ((12 : Int32) + a2), .ref 116]) (pc2 := 64) op156_63 rfl rfl ?_
      obtain ⟨k9, h⟩ := rq_chk h
      refine rx_ia (pc2 := 65) op156_64 (rn_shlt sp_118) sp_118 k9 rfl rfl ?_
      obtain ⟨k11, h⟩ := rq_chk h
      obtain ⟨m10, em10, h⟩ := rq_bv h
      refine rx_is (m2 := m10) (pc2 := 66) op156_65 sp_116 k11 rfl em10 rfl ?_
      refine rx_ic (v := 0) (pc2 := 67) op156_66 (by decide) rfl ?_
      refine rx_s (L2 := [some (.ref 115), o1, some (.int a2), some (.int 0)]) (pc2 := 68) op156_67 rfl rfl rfl ?_
      obtain ⟨m18, f23, h⟩ := rq_bind h
      refine mo_table_l68_ok xs hd (fun m0 eq => ?_) _ _ _ _  f23
      subst eq
      try dsimp only at h
      intro o19 o20
      obtain ⟨x21, ex21, h⟩ := rq_bv h
      refine rx_incd (w := 1) (v := x21) (j := 1) (pc2 := 114) op156_111 rfl (by decide) ex21 rfl (fun o22 => ?_)
      show rn_R _ _ _ _ [some (.ref 115), o22, some (.int x21), o20] _ _ _ _
      refine ry_go (tgt := 41) op156_114 (by decide) (by decide) ?_
      exact ih _ _ _ _ h
    · have h := (if_neg b8).symm.trans h
      cases h
      exact hr _ rfl _ _ _
set_option maxHeartbeats 4000000 in
set_option maxRecDepth 20000 in
theorem mo_table_ok (xs : List Int32) {d : Nat} (hd : 5 ≤ d) {n : Nat} {m mO : rn_Mem} {rO : Int32} (h : mo_table n  m = some (rO, mO)) : rn_R xs d 156 0 (rn_ent 4 [.ref 115]) [] (rn_SH, m) (some (.int rO)) (rn_SH, mO) := by
  obtain ⟨d, rfl⟩ : ∃ e, d = e + 1 := ⟨d - 1, by omega⟩
  unfold mo_table at h
  show rn_R xs (d + 1) 156 0 [some (.ref 115), none, none, none] [] (rn_SH, m) (some (.int rO)) (rn_SH, mO)
  refine rx_p (L2 := [some (.ref 115), none, none, none]) (S2 := [.ref 115]) (pc2 := 1) op156_0 rfl rfl ?_
  refine rx_gf (v := .ref 116) (pc2 := 4) op156_1 sp_115 rfl rfl rfl ?_
  refine rx_ic (v := 0) (pc2 := 5) op156_4 (by decide) rfl ?_
  refine rx_ia (j := 0) (pc2 := 6) op156_5 (rn_shlt sp_116) sp_116 (by decide) (by decide) rfl ?_
  refine ry_if_ne (tgt := 17) (pc2 := 9) op156_6 (by decide) (by decide) rfl (fun b1 => ?_) (fun b1 => ?_)
  · have h := (if_pos b1).symm.trans h
    refine rx_p (L2 := [some (.ref 115), none, none, none]) (S2 := [.ref 115]) (pc2 := 10) op156_9 rfl rfl ?_
    refine rx_ic (v := 0) (pc2 := 11) op156_10 (by decide) rfl ?_
    obtain ⟨m2, em2, h⟩ := rq_bv h
    refine rx_pf (m2 := m2) (pc2 := 14) op156_11 sp_115 rfl em2 rfl ?_
    refine rx_bp (v := (-2)) (pc2 := 16) op156_14 (by decide) rfl ?_
    obtain ⟨rfl, rfl⟩ := rq_ret h
    exact ry_ri op156_16 ms_156 rfl
  · have h := (if_neg b1).symm.trans h
    refine rx_p (L2 := [some (.ref 115), none, none, none]) (S2 := [.ref 115]) (pc2 := 18) op156_17 rfl rfl ?_
    obtain ⟨⟨r4, m3⟩, f5, h⟩ := rq_bind h
    try dsimp only at h
    refine ry_iv (p := 115) (vs := []) (T := []) (pc2 := 21) op156_18 ms_157 (by decide) rfl rfl (Nat.le_of_ble_eq_true rfl) (Nat.le_of_ble_eq_true rfl) sp_115 (mo_readTable_ok xs (by omega)  f5) rfl ?_
    show rn_R _ _ _ _ _ [.int r4] _ _ _
    refine rx_s (L2 := [some (.ref 115), some (.int r4), none, none]) (pc2 := 22) op156_21 rfl rfl rfl ?_
    refine rx_p (L2 := [some (.ref 115), some (.int r4), none, none]) (S2 := [.ref 115]) (pc2 := 23) op156_22 rfl rfl ?_
    refine rx_ic (v := 0) (pc2 := 24) op156_23 (by decide) rfl ?_
    obtain ⟨m6, em6, h⟩ := rq_bv h
    refine rx_pf (m2 := m6) (pc2 := 27) op156_24 sp_115 rfl em6 rfl ?_
    refine rx_p (L2 := [some (.ref 115), some (.int r4), none, none]) (S2 := [.int r4]) (pc2 := 28) op156_27 rfl rfl ?_
    refine ry_if_ne (tgt := 39) (pc2 := 31) op156_28 (by decide) (by decide) rfl (fun b7 => ?_) (fun b7 => ?_)
    · have h := (if_pos b7).symm.trans h
      refine rx_bp (v := (-20)) (pc2 := 33) op156_31 (by decide) rfl ?_
      refine rx_p (L2 := [some (.ref 115), some (.int r4), none, none]) (S2 := [.ref 115, .int (-20)]) (pc2 := 34) op156_33 rfl rfl ?_
      refine rx_gf (v := .int (m6.1 115 3)) (pc2 := 37) op156_34 sp_115 rfl rfl rfl ?_
      refine rx_p (L2 := [some (.ref 115), some (.int r4), none, none]) (S2 := [.int (((-20) : Int32) - (m6.1 115 3))]) (pc2 := 38) op156_37 rfl rfl ?_
      obtain ⟨rfl, rfl⟩ := rq_ret h
      exact ry_ri op156_38 ms_156 rfl
    · have h := (if_neg b7).symm.trans h
      refine rx_ic (v := 0) (pc2 := 40) op156_39 (by decide) rfl ?_
      refine rx_s (L2 := [some (.ref 115), some (.int r4), some (.int 0), none]) (pc2 := 41) op156_40 rfl rfl rfl ?_
      obtain ⟨m24, f32, h⟩ := rq_bind h
      refine mo_table_l41_ok xs hd (fun m0 eq => ?_) _ _ _ _ _  f32
      subst eq
      try dsimp only at h
      intro o25 o26 o27
      refine rx_p (L2 := [some (.ref 115), o25, o26, o27]) (S2 := [.ref 115]) (pc2 := 118) op156_117 rfl rfl ?_
      refine rx_gf (v := .ref 116) (pc2 := 121) op156_118 sp_115 rfl rfl rfl ?_
      refine rx_bp (v := 9) (pc2 := 123) op156_121 (by decide) rfl ?_
      refine rx_ic (v := 1) (pc2 := 124) op156_123 (by decide) rfl ?_
      obtain ⟨m28, em28, h⟩ := rq_bv h
      refine rx_is (j := 9) (m2 := m28) (pc2 := 125) op156_124 sp_116 (by decide) (by decide) em28 rfl ?_
      refine rx_p (L2 := [some (.ref 115), o25, o26, o27]) (S2 := [.ref 115]) (pc2 := 126) op156_125 rfl rfl ?_
      refine rx_ic (v := 1) (pc2 := 127) op156_126 (by decide) rfl ?_
      obtain ⟨⟨r30, m29⟩, f31, h⟩ := rq_bind h
      try dsimp only at h
      refine ry_iv (p := 115) (vs := [.int 1]) (T := []) (pc2 := 130) op156_127 ms_158 (by decide) rfl rfl (Nat.le_of_ble_eq_true rfl) (Nat.le_of_ble_eq_true rfl) sp_115 (mo_count_ok xs (by omega)  f31) rfl ?_
      show rn_R _ _ _ _ _ [.int r30] _ _ _
      obtain ⟨rfl, rfl⟩ := rq_ret h
      exact ry_ri op156_130 ms_156 rfl
/-! mo_told -/
theorem op164_0 : rn_op 164 0 = some (.iload_n 1, 1, 0, 0, 0) := by decide +kernel
theorem op164_1 : rn_op 164 1 = some (.i2l, 1, 0, 0, 0) := by decide +kernel
theorem op164_2 : rn_op 164 2 = some (.lconst 0, 1, 0, 0, 0) := by decide +kernel
theorem op164_3 : rn_op 164 3 = some (.ldc2_w 176, 3, 7, 0, 0) := by decide +kernel
theorem op164_6 : rn_op 164 6 = some (.invokestatic 121, 3, 147, 3, 0) := by decide +kernel
theorem op164_9 : rn_op 164 9 = some (.ifCond .ne 7, 3, 0, 0, 0) := by decide +kernel
theorem op164_12 : rn_op 164 12 = some (.iconst (-1), 1, 0, 0, 0) := by decide +kernel
theorem op164_13 : rn_op 164 13 = some (.goto 25, 3, 0, 0, 0) := by decide +kernel
theorem op164_16 : rn_op 164 16 = some (.aload_n 0, 1, 0, 0, 0) := by decide +kernel
theorem op164_17 : rn_op 164 17 = some (.getfield 7, 3, 11, 0, 3) := by decide +kernel
theorem op164_20 : rn_op 164 20 = some (.iconst 0, 1, 0, 0, 0) := by decide +kernel
theorem op164_21 : rn_op 164 21 = some (.iaload, 1, 0, 0, 0) := by decide +kernel
theorem op164_22 : rn_op 164 22 = some (.ifCond .ne 8, 3, 0, 0, 0) := by decide +kernel
theorem op164_25 : rn_op 164 25 = some (.bipush (-2), 2, 0, 0, 0) := by decide +kernel
theorem op164_27 : rn_op 164 27 = some (.goto 11, 3, 0, 0, 0) := by decide +kernel
theorem op164_30 : rn_op 164 30 = some (.aload_n 0, 1, 0, 0, 0) := by decide +kernel
theorem op164_31 : rn_op 164 31 = some (.getfield 7, 3, 11, 0, 3) := by decide +kernel
theorem op164_34 : rn_op 164 34 = some (.iconst 1, 1, 0, 0, 0) := by decide +kernel
theorem op164_35 : rn_op 164 35 = some (.iload_n 1, 1, 0, 0, 0) := by decide +kernel
theorem op164_36 : rn_op 164 36 = some (.iadd, 1, 0, 0, 0) := by decide +kernel
theorem op164_37 : rn_op 164 37 = some (.iaload, 1, 0, 0, 0) := by decide +kernel
theorem op164_38 : rn_op 164 38 = some (.ireturn, 1, 0, 0, 0) := by decide +kernel
def mo_told (n : Nat) (a1 : Int32) (m : rn_Mem) : Option (Int32 × rn_Mem) :=
  (mo_in n (a1.toInt64) 0 7 m).bind fun (r2, m1) =>
  if r2 = 0 then
    some ((-1), m1)
  else
    if (m1.1 116 0) = 0 then
      some ((-2), m1)
    else
      if rn_in ((1 : Int32) + a1) 101 = true then
        some (m1.1 116 ((1 : Int32) + a1).toNatClampNeg, m1)
      else none
set_option maxHeartbeats 4000000 in
set_option maxRecDepth 20000 in
theorem mo_told_ok (xs : List Int32) {d : Nat} (hd : 1 ≤ d) {n : Nat} {a1 : Int32} {m mO : rn_Mem} {rO : Int32} (h : mo_told n a1 m = some (rO, mO)) : rn_R xs d 164 0 (rn_ent 2 [.ref 115, .int a1]) [] (rn_SH, m) (some (.int rO)) (rn_SH, mO) := by
  obtain ⟨d, rfl⟩ : ∃ e, d = e + 1 := ⟨d - 1, by omega⟩
  unfold mo_told at h
  show rn_R xs (d + 1) 164 0 [some (.ref 115), some (.int a1)] [] (rn_SH, m) (some (.int rO)) (rn_SH, mO)
  refine rx_p (L2 := [some (.ref 115), some (.int a1)]) (S2 := [.int a1]) (pc2 := 1) op164_0 rfl rfl ?_
  refine rx_p (L2 := [some (.ref 115), some (.int a1)]) (S2 := [.long (a1.toInt64)]) (pc2 := 2) op164_1 rfl rfl ?_
  refine rx_lc (v := 0) (pc2 := 3) op164_2 (by decide) rfl ?_
  refine rx_ld2 (v := 7) (pc2 := 6) op164_3 (by decide) rfl ?_
  obtain ⟨⟨r2, m1⟩, f3, h⟩ := rq_bind h
  try dsimp only at h
  refine ry_is (vs := [.long (a1.toInt64), .long 0, .long 7]) (T := []) (pc2 := 9) op164_6 (by decide) ms_147 (by decide) rfl rfl (Nat.le_of_ble_eq_true rfl) (Nat.le_of_ble_eq_true rfl) (mo_in_ok xs (by omega)  f3) rfl ?_
  show rn_R _ _ _ _ _ [.int r2] _ _ _
  refine ry_if_ne (tgt := 16) (pc2 := 12) op164_9 (by decide) (by decide) rfl (fun b4 => ?_) (fun b4 => ?_)
  · have h := (if_pos b4).symm.trans h
    refine rx_ic (v := (-1)) (pc2 := 13) op164_12 (by decide) rfl ?_
    refine ry_go (tgt := 38) op164_13 (by decide) (by decide) ?_
    obtain ⟨rfl, rfl⟩ := rq_ret h
    exact ry_ri op164_38 ms_164 rfl
  · have h := (if_neg b4).symm.trans h
    refine rx_p (L2 := [some (.ref 115), some (.int a1)]) (S2 := [.ref 115]) (pc2 := 17) op164_16 rfl rfl ?_
    refine rx_gf (v := .ref 116) (pc2 := 20) op164_17 sp_115 rfl rfl rfl ?_
    refine rx_ic (v := 0) (pc2 := 21) op164_20 (by decide) rfl ?_
    refine rx_ia (j := 0) (pc2 := 22) op164_21 (rn_shlt sp_116) sp_116 (by decide) (by decide) rfl ?_
    refine ry_if_ne (tgt := 30) (pc2 := 25) op164_22 (by decide) (by decide) rfl (fun b5 => ?_) (fun b5 => ?_)
    · have h := (if_pos b5).symm.trans h
      refine rx_bp (v := (-2)) (pc2 := 27) op164_25 (by decide) rfl ?_
      refine ry_go (tgt := 38) op164_27 (by decide) (by decide) ?_
      obtain ⟨rfl, rfl⟩ := rq_ret h
      exact ry_ri op164_38 ms_164 rfl
    · have h := (if_neg b5).symm.trans h
      refine rx_p (L2 := [some (.ref 115), some (.int a1)]) (S2 := [.ref 115]) (pc2 := 31) op164_30 rfl rfl ?_
      refine rx_gf (v := .ref 116) (pc2 := 34) op164_31 sp_115 rfl rfl rfl ?_
      refine rx_ic (v := 1) (pc2 := 35) op164_34 (by decide) rfl ?_
      refine rx_p (L2 := [some (.ref 115), some (.int a1)]) (S2 := [.int a1, .int 1, .ref 116]) (pc2 := 36) op164_35 rfl rfl ?_
      refine rx_p (L2 := [some (.ref 115), some (.int a1)]) (S2 := [.int ((1 : Int32) + a1), .ref 116]) (pc2 := 37) op164_36 rfl rfl ?_
      obtain ⟨k6, h⟩ := rq_chk h
      refine rx_ia (pc2 := 38) op164_37 (rn_shlt sp_116) sp_116 k6 rfl rfl ?_
      obtain ⟨rfl, rfl⟩ := rq_ret h
      exact ry_ri op164_38 ms_164 rfl
/-! mo_set -/
theorem op165_0 : rn_op 165 0 = some (.iload_n 1, 1, 0, 0, 0) := by decide +kernel
theorem op165_1 : rn_op 165 1 = some (.iconst 3, 1, 0, 0, 0) := by decide +kernel
theorem op165_2 : rn_op 165 2 = some (.if_icmp .eq 9, 3, 0, 0, 0) := by decide +kernel
theorem op165_5 : rn_op 165 5 = some (.iload_n 1, 1, 0, 0, 0) := by decide +kernel
theorem op165_6 : rn_op 165 6 = some (.bipush 7, 2, 0, 0, 0) := by decide +kernel
theorem op165_8 : rn_op 165 8 = some (.if_icmp .ne 7, 3, 0, 0, 0) := by decide +kernel
theorem op165_11 : rn_op 165 11 = some (.iconst 3, 1, 0, 0, 0) := by decide +kernel
theorem op165_12 : rn_op 165 12 = some (.goto 13, 3, 0, 0, 0) := by decide +kernel
theorem op165_15 : rn_op 165 15 = some (.iload_n 1, 1, 0, 0, 0) := by decide +kernel
theorem op165_16 : rn_op 165 16 = some (.iconst 4, 1, 0, 0, 0) := by decide +kernel
theorem op165_17 : rn_op 165 17 = some (.if_icmp .ne 7, 3, 0, 0, 0) := by decide +kernel
theorem op165_20 : rn_op 165 20 = some (.iconst 2, 1, 0, 0, 0) := by decide +kernel
theorem op165_21 : rn_op 165 21 = some (.goto 4, 3, 0, 0, 0) := by decide +kernel
theorem op165_24 : rn_op 165 24 = some (.iconst 1, 1, 0, 0, 0) := by decide +kernel
theorem op165_25 : rn_op 165 25 = some (.istore_n 3, 1, 0, 0, 0) := by decide +kernel
theorem op165_26 : rn_op 165 26 = some (.iload_n 1, 1, 0, 0, 0) := by decide +kernel
theorem op165_27 : rn_op 165 27 = some (.i2l, 1, 0, 0, 0) := by decide +kernel
theorem op165_28 : rn_op 165 28 = some (.ldc2_w 153, 3, 3, 0, 0) := by decide +kernel
theorem op165_31 : rn_op 165 31 = some (.ldc2_w 176, 3, 7, 0, 0) := by decide +kernel
theorem op165_34 : rn_op 165 34 = some (.invokestatic 121, 3, 147, 3, 0) := by decide +kernel
theorem op165_37 : rn_op 165 37 = some (.ifCond .eq 31, 3, 0, 0, 0) := by decide +kernel
theorem op165_40 : rn_op 165 40 = some (.iload_n 2, 1, 0, 0, 0) := by decide +kernel
theorem op165_41 : rn_op 165 41 = some (.i2l, 1, 0, 0, 0) := by decide +kernel
theorem op165_42 : rn_op 165 42 = some (.iload_n 1, 1, 0, 0, 0) := by decide +kernel
theorem op165_43 : rn_op 165 43 = some (.iconst 3, 1, 0, 0, 0) := by decide +kernel
theorem op165_44 : rn_op 165 44 = some (.if_icmp .eq 9, 3, 0, 0, 0) := by decide +kernel
theorem op165_47 : rn_op 165 47 = some (.iload_n 1, 1, 0, 0, 0) := by decide +kernel
theorem op165_48 : rn_op 165 48 = some (.bipush 7, 2, 0, 0, 0) := by decide +kernel
theorem op165_50 : rn_op 165 50 = some (.if_icmp .ne 9, 3, 0, 0, 0) := by decide +kernel
theorem op165_53 : rn_op 165 53 = some (.ldc2_w 178, 3, 18446744073709551615, 0, 0) := by decide +kernel
theorem op165_56 : rn_op 165 56 = some (.goto 4, 3, 0, 0, 0) := by decide +kernel
theorem op165_59 : rn_op 165 59 = some (.lconst 0, 1, 0, 0, 0) := by decide +kernel
theorem op165_60 : rn_op 165 60 = some (.iload_n 3, 1, 0, 0, 0) := by decide +kernel
theorem op165_61 : rn_op 165 61 = some (.i2l, 1, 0, 0, 0) := by decide +kernel
theorem op165_62 : rn_op 165 62 = some (.invokestatic 121, 3, 147, 3, 0) := by decide +kernel
theorem op165_65 : rn_op 165 65 = some (.ifCond .ne 5, 3, 0, 0, 0) := by decide +kernel
theorem op165_68 : rn_op 165 68 = some (.iconst (-1), 1, 0, 0, 0) := by decide +kernel
theorem op165_69 : rn_op 165 69 = some (.ireturn, 1, 0, 0, 0) := by decide +kernel
theorem op165_70 : rn_op 165 70 = some (.aload_n 0, 1, 0, 0, 0) := by decide +kernel
theorem op165_71 : rn_op 165 71 = some (.getfield 7, 3, 11, 0, 3) := by decide +kernel
theorem op165_74 : rn_op 165 74 = some (.iconst 0, 1, 0, 0, 0) := by decide +kernel
theorem op165_75 : rn_op 165 75 = some (.iaload, 1, 0, 0, 0) := by decide +kernel
theorem op165_76 : rn_op 165 76 = some (.ifCond .ne 6, 3, 0, 0, 0) := by decide +kernel
theorem op165_79 : rn_op 165 79 = some (.bipush (-2), 2, 0, 0, 0) := by decide +kernel
theorem op165_81 : rn_op 165 81 = some (.ireturn, 1, 0, 0, 0) := by decide +kernel
theorem op165_82 : rn_op 165 82 = some (.iload_n 1, 1, 0, 0, 0) := by decide +kernel
theorem op165_83 : rn_op 165 83 = some (.bipush 7, 2, 0, 0, 0) := by decide +kernel
theorem op165_85 : rn_op 165 85 = some (.if_icmp .ne 15, 3, 0, 0, 0) := by decide +kernel
theorem op165_88 : rn_op 165 88 = some (.iload_n 2, 1, 0, 0, 0) := by decide +kernel
theorem op165_89 : rn_op 165 89 = some (.aload_n 0, 1, 0, 0, 0) := by decide +kernel
theorem op165_90 : rn_op 165 90 = some (.getfield 7, 3, 11, 0, 3) := by decide +kernel
theorem op165_93 : rn_op 165 93 = some (.iconst 1, 1, 0, 0, 0) := by decide +kernel
theorem op165_94 : rn_op 165 94 = some (.iaload, 1, 0, 0, 0) := by decide +kernel
theorem op165_95 : rn_op 165 95 = some (.if_icmp .lt 5, 3, 0, 0, 0) := by decide +kernel
theorem op165_98 : rn_op 165 98 = some (.iconst (-1), 1, 0, 0, 0) := by decide +kernel
theorem op165_99 : rn_op 165 99 = some (.ireturn, 1, 0, 0, 0) := by decide +kernel
theorem op165_100 : rn_op 165 100 = some (.aload_n 0, 1, 0, 0, 0) := by decide +kernel
theorem op165_101 : rn_op 165 101 = some (.getfield 7, 3, 11, 0, 3) := by decide +kernel
theorem op165_104 : rn_op 165 104 = some (.iconst 1, 1, 0, 0, 0) := by decide +kernel
theorem op165_105 : rn_op 165 105 = some (.iload_n 1, 1, 0, 0, 0) := by decide +kernel
theorem op165_106 : rn_op 165 106 = some (.iadd, 1, 0, 0, 0) := by decide +kernel
theorem op165_107 : rn_op 165 107 = some (.iload_n 2, 1, 0, 0, 0) := by decide +kernel
theorem op165_108 : rn_op 165 108 = some (.ifCond .ge 8, 3, 0, 0, 0) := by decide +kernel
theorem op165_111 : rn_op 165 111 = some (.bipush (-4), 2, 0, 0, 0) := by decide +kernel
theorem op165_113 : rn_op 165 113 = some (.goto 4, 3, 0, 0, 0) := by decide +kernel
theorem op165_116 : rn_op 165 116 = some (.iload_n 2, 1, 0, 0, 0) := by decide +kernel
theorem op165_117 : rn_op 165 117 = some (.iastore, 1, 0, 0, 0) := by decide +kernel
theorem op165_118 : rn_op 165 118 = some (.aload_n 0, 1, 0, 0, 0) := by decide +kernel
theorem op165_119 : rn_op 165 119 = some (.getfield 7, 3, 11, 0, 3) := by decide +kernel
theorem op165_122 : rn_op 165 122 = some (.bipush 11, 2, 0, 0, 0) := by decide +kernel
theorem op165_124 : rn_op 165 124 = some (.iconst 0, 1, 0, 0, 0) := by decide +kernel
theorem op165_125 : rn_op 165 125 = some (.iastore, 1, 0, 0, 0) := by decide +kernel
theorem op165_126 : rn_op 165 126 = some (.iconst 1, 1, 0, 0, 0) := by decide +kernel
theorem op165_127 : rn_op 165 127 = some (.ireturn, 1, 0, 0, 0) := by decide +kernel
def mo_set (n : Nat) (a1 : Int32) (a2 : Int32) (m : rn_Mem) : Option (Int32 × rn_Mem) :=
  (show Option (Int32) from
    if a1 = 3 then
      some (3)
    else
      if a1 = 7 then
        some (3)
      else
        if a1 = 4 then
          some (2)
        else
          some (1)).bind fun x5 =>
  (mo_in n (a1.toInt64) 3 7 m).bind fun (r7, m6) =>
  if r7 = 0 then
    some ((-1), m6)
  else
    (show Option (Int64) from
      if a1 = 3 then
        some ((-1))
      else
        if a1 = 7 then
          some ((-1))
        else
          some (0)).bind fun x12 =>
    (mo_in n (a2.toInt64) x12 (x5.toInt64) m6).bind fun (r14, m13) =>
    if r14 = 0 then
      some ((-1), m13)
    else
      if (m13.1 116 0) = 0 then
        some ((-2), m13)
      else
        if a1 = 7 then
          if a2 < (m13.1 116 1) then
            (show Option (Int32) from
              if a2 < 0 then
                some ((-4))
              else
                some (a2)).bind fun x25 =>
            if rn_in ((1 : Int32) + a1) 101 = true then
              (some (rm_i m13 116 ((1 : Int32) + a1).toNatClampNeg x25)).bind fun (m26 : rn_Mem) =>
              (some (rm_i m26 116 11 0)).bind fun (m28 : rn_Mem) =>
              some (1, m28)
            else none
          else
            some ((-1), m13)
        else
          (show Option (Int32) from
            if a2 < 0 then
              some ((-4))
            else
              some (a2)).bind fun x34 =>
          if rn_in ((1 : Int32) + a1) 101 = true then
            (some (rm_i m13 116 ((1 : Int32) + a1).toNatClampNeg x34)).bind fun (m35 : rn_Mem) =>
            (some (rm_i m35 116 11 0)).bind fun (m37 : rn_Mem) =>
            some (1, m37)
          else none
set_option maxHeartbeats 4000000 in
set_option maxRecDepth 20000 in
theorem mo_set_ok (xs : List Int32) {d : Nat} (hd : 1 ≤ d) {n : Nat} {a1 : Int32} {a2 : Int32} {m mO : rn_Mem} {rO : Int32} (h : mo_set n a1 a2 m = some (rO, mO)) : rn_R xs d 165 0 (rn_ent 4 [.ref 115, .int a1, .int a2]) [] (rn_SH, m) (some (.int rO)) (rn_SH, mO) := by
  obtain ⟨d, rfl⟩ : ∃ e, d = e + 1 := ⟨d - 1, by omega⟩
  unfold mo_set at h
  show rn_R xs (d + 1) 165 0 [some (.ref 115), some (.int a1), some (.int a2), none] [] (rn_SH, m) (some (.int rO)) (rn_SH, mO)
  refine rx_p (L2 := [some (.ref 115), some (.int a1), some (.int a2), none]) (S2 := [.int a1]) (pc2 := 1) op165_0 rfl rfl ?_
  refine rx_ic (v := 3) (pc2 := 2) op165_1 (by decide) rfl ?_
  obtain ⟨x5, gc40, h⟩ := rq_bind h
  try dsimp only at h
  have c40 : ∀ (o4 : Option Value), rn_R xs (d + 1) 165 25 [some (.ref 115), some (.int a1), some (.int a2), o4] [.int x5] (rn_SH, m) (some (.int rO)) (rn_SH, mO) := by
    intro o4
    refine rx_s (L2 := [some (.ref 115), some (.int a1), some (.int a2), some (.int x5)]) (pc2 := 26) op165_25 rfl rfl rfl ?_
    refine rx_p (L2 := [some (.ref 115), some (.int a1), some (.int a2), some (.int x5)]) (S2 := [.int a1]) (pc2 := 27) op165_26 rfl rfl ?_
    refine rx_p (L2 := [some (.ref 115), some (.int a1), some (.int a2), some (.int x5)]) (S2 := [.long (a1.toInt64)]) (pc2 := 28) op165_27 rfl rfl ?_
    refine rx_ld2 (v := 3) (pc2 := 31) op165_28 (by decide) rfl ?_
    refine rx_ld2 (v := 7) (pc2 := 34) op165_31 (by decide) rfl ?_
    obtain ⟨⟨r7, m6⟩, f8, h⟩ := rq_bind h
    try dsimp only at h
    refine ry_is (vs := [.long (a1.toInt64), .long 3, .long 7]) (T := []) (pc2 := 37) op165_34 (by decide) ms_147 (by decide) rfl rfl (Nat.le_of_ble_eq_true rfl) (Nat.le_of_ble_eq_true rfl) (mo_in_ok xs (by omega)  f8) rfl ?_
    show rn_R _ _ _ _ _ [.int r7] _ _ _
    refine ry_if_eq (tgt := 68) (pc2 := 40) op165_37 (by decide) (by decide) rfl (fun b9 => ?_) (fun b9 => ?_)
    · have h := (if_pos b9).symm.trans h
      refine rx_ic (v := (-1)) (pc2 := 69) op165_68 (by decide) rfl ?_
      obtain ⟨rfl, rfl⟩ := rq_ret h
      exact ry_ri op165_69 ms_165 rfl
    · have h := (if_neg b9).symm.trans h
      refine rx_p (L2 := [some (.ref 115), some (.int a1), some (.int a2), some (.int x5)]) (S2 := [.int a2]) (pc2 := 41) op165_40 rfl rfl ?_
      refine rx_p (L2 := [some (.ref 115), some (.int a1), some (.int a2), some (.int x5)]) (S2 := [.long (a2.toInt64)]) (pc2 := 42) op165_41 rfl rfl ?_
      refine rx_p (L2 := [some (.ref 115), some (.int a1), some (.int a2), some (.int x5)]) (S2 := [.int a1, .long (a2.toInt64)]) (pc2 := 43) op165_42 rfl rfl ?_
      refine rx_ic (v := 3) (pc2 := 44) op165_43 (by decide) rfl ?_
      obtain ⟨x12, gc39, h⟩ := rq_bind h
      try dsimp only at h
      have c39 : ∀ (_ : Unit), rn_R xs (d + 1) 165 60 [some (.ref 115), some (.int a1), some (.int a2), some (.int x5)] [.long x12, .long (a2.toInt64)] (rn_SH, m6) (some (.int rO)) (rn_SH, mO) := by
        intro _
        refine rx_p (L2 := [some (.ref 115), some (.int a1), some (.int a2), some (.int x5)]) (S2 := [.int x5, .long x12, .long (a2.toInt64)]) (pc2 := 61) op165_60 rfl rfl ?_
        refine rx_p (L2 := [some (.ref 115), some (.int a1), some (.int a2), some (.int x5)]) (S2 := [.long (x5.toInt64), .long x12, .long (a2.toInt64)]) (pc2 := 62) op165_61 rfl rfl ?_
        obtain ⟨⟨r14, m13⟩, f15, h⟩ := rq_bind h
        try dsimp only at h
        refine ry_is (vs := [.long (a2.toInt64), .long x12, .long (x5.toInt64)]) (T := []) (pc2 := 65) op165_62 (by decide) ms_147 (by decide) rfl rfl (Nat.le_of_ble_eq_true rfl) (Nat.le_of_ble_eq_true rfl) (mo_in_ok xs (by omega)  f15) rfl ?_
        show rn_R _ _ _ _ _ [.int r14] _ _ _
        refine ry_if_ne (tgt := 70) (pc2 := 68) op165_65 (by decide) (by decide) rfl (fun b16 => ?_) (fun b16 => ?_)
        · have h := (if_pos b16).symm.trans h
          refine rx_ic (v := (-1)) (pc2 := 69) op165_68 (by decide) rfl ?_
          obtain ⟨rfl, rfl⟩ := rq_ret h
          exact ry_ri op165_69 ms_165 rfl
        · have h := (if_neg b16).symm.trans h
          refine rx_p (L2 := [some (.ref 115), some (.int a1), some (.int a2), some (.int x5)]) (S2 := [.ref 115]) (pc2 := 71) op165_70 rfl rfl ?_
          refine rx_gf (v := .ref 116) (pc2 := 74) op165_71 sp_115 rfl rfl rfl ?_
          refine rx_ic (v := 0) (pc2 := 75) op165_74 (by decide) rfl ?_
          refine rx_ia (j := 0) (pc2 := 76) op165_75 (rn_shlt sp_116) sp_116 (by decide) (by decide) rfl ?_
          refine ry_if_ne (tgt := 82) (pc2 := 79) op165_76 (by decide) (by decide) rfl (fun b17 => ?_) (fun b17 => ?_)
          · have h := (if_pos b17).symm.trans h
            refine rx_bp (v := (-2)) (pc2 := 81) op165_79 (by decide) rfl ?_
            obtain ⟨rfl, rfl⟩ := rq_ret h
            exact ry_ri op165_81 ms_165 rfl
          · have h := (if_neg b17).symm.trans h
            refine rx_p (L2 := [some (.ref 115), some (.int a1), some (.int a2), some (.int x5)]) (S2 := [.int a1]) (pc2 := 83) op165_82 rfl rfl ?_
            refine rx_bp (v := 7) (pc2 := 85) op165_83 (by decide) rfl ?_
            refine ry_ic_ne (tgt := 100) (pc2 := 88) op165_85 (by decide) (by decide) rfl (fun b18 => ?_) (fun b18 => ?_)
            · have h := (if_pos b18).symm.trans h
              refine rx_p (L2 := [some (.ref 115), some (.int a1), some (.int a2), some (.int x5)]) (S2 := [.int a2]) (pc2 := 89) op165_88 rfl rfl ?_
              refine rx_p (L2 := [some (.ref 115), some (.int a1), some (.int a2), some (.int x5)]) (S2 := [.ref 115, .int a2]) (pc2 := 90) op165_89 rfl rfl ?_
              refine rx_gf (v := .ref 116) (pc2 := 93) op165_90 sp_115 rfl rfl rfl ?_
              refine rx_ic (v := 1) (pc2 := 94) op165_93 (by decide) rfl ?_
              refine rx_ia (j := 1) (pc2 := 95) op165_94 (rn_shlt sp_116) sp_116 (by decide) (by decide) rfl ?_
              refine ry_ic_lt (tgt := 100) (pc2 := 98) op165_95 (by decide) (by decide) rfl (fun b20 => ?_) (fun b20 => ?_)
              · have h := (if_pos b20).symm.trans h
                refine rx_p (L2 := [some (.ref 115), some (.int a1), some (.int a2), some (.int x5)]) (S2 := [.ref 115]) (pc2 := 101) op165_100 rfl rfl ?_
                refine rx_gf (v := .ref 116) (pc2 := 104) op165_101 sp_115 rfl rfl rfl ?_
                refine rx_ic (v := 1) (pc2 := 105) op165_104 (by decide) rfl ?_
                refine rx_p (L2 := [some (.ref 115), some (.int a1), some (.int a2), some (.int x5)]) (S2 := [.int a1, .int 1, .ref 116]) (pc2 := 106) op165_105 rfl rfl ?_
                refine rx_p (L2 := [some (.ref 115), some (.int a1), some (.int a2), some (.int x5)]) (S2 := [.int ((1 : Int32) + a1), .ref 116]) (pc2 := 107) op165_106 rfl rfl ?_
                refine rx_p (L2 := [some (.ref 115), some (.int a1), some (.int a2), some (.int x5)]) (S2 := [.int a2, .int ((1 : Int32) + a1), .ref 116]) (pc2 := 108) op165_107 rfl rfl ?_
                obtain ⟨x25, gc29, h⟩ := rq_bind h
                try dsimp only at h
                have c29 : ∀ (o22 o23 o24 : Option Value), rn_R xs (d + 1) 165 117 [some (.ref 115), o22, o23, o24] [.int x25, .int ((1 : Int32) + a1), .ref 116] (rn_SH, m13) (some (.int rO)) (rn_SH, mO) := by
                  intro o22 o23 o24
                  obtain ⟨k27, h⟩ := rq_chk h
                  obtain ⟨m26, em26, h⟩ := rq_bv h
                  refine rx_is (m2 := m26) (pc2 := 118) op165_117 sp_116 k27 rfl em26 rfl ?_
                  refine rx_p (L2 := [some (.ref 115), o22, o23, o24]) (S2 := [.ref 115]) (pc2 := 119) op165_118 rfl rfl ?_
                  refine rx_gf (v := .ref 116) (pc2 := 122) op165_119 sp_115 rfl rfl rfl ?_
                  refine rx_bp (v := 11) (pc2 := 124) op165_122 (by decide) rfl ?_
                  refine rx_ic (v := 0) (pc2 := 125) op165_124 (by decide) rfl ?_
                  obtain ⟨m28, em28, h⟩ := rq_bv h
                  refine rx_is (j := 11) (m2 := m28) (pc2 := 126) op165_125 sp_116 (by decide) (by decide) em28 rfl ?_
                  refine rx_ic (v := 1) (pc2 := 127) op165_126 (by decide) rfl ?_
                  obtain ⟨rfl, rfl⟩ := rq_ret h
                  exact ry_ri op165_127 ms_165 rfl
                refine ry_if_ge (tgt := 116) (pc2 := 111) op165_108 (by decide) (by decide) rfl (fun b21 => ?_) (fun b21 => ?_)
                · have gc29 := (if_pos b21).symm.trans gc29
                  refine rx_bp (v := (-4)) (pc2 := 113) op165_111 (by decide) rfl ?_
                  refine ry_go (tgt := 117) op165_113 (by decide) (by decide) ?_
                  cases gc29
                  exact c29 _ _ _
                · have gc29 := (if_neg b21).symm.trans gc29
                  refine rx_p (L2 := [some (.ref 115), some (.int a1), some (.int a2), some (.int x5)]) (S2 := [.int a2, .int ((1 : Int32) + a1), .ref 116]) (pc2 := 117) op165_116 rfl rfl ?_
                  cases gc29
                  exact c29 _ _ _
              · have h := (if_neg b20).symm.trans h
                refine rx_ic (v := (-1)) (pc2 := 99) op165_98 (by decide) rfl ?_
                obtain ⟨rfl, rfl⟩ := rq_ret h
                exact ry_ri op165_99 ms_165 rfl
            · have h := (if_neg b18).symm.trans h
              refine rx_p (L2 := [some (.ref 115), some (.int a1), some (.int a2), some (.int x5)]) (S2 := [.ref 115]) (pc2 := 101) op165_100 rfl rfl ?_
              refine rx_gf (v := .ref 116) (pc2 := 104) op165_101 sp_115 rfl rfl rfl ?_
              refine rx_ic (v := 1) (pc2 := 105) op165_104 (by decide) rfl ?_
              refine rx_p (L2 := [some (.ref 115), some (.int a1), some (.int a2), some (.int x5)]) (S2 := [.int a1, .int 1, .ref 116]) (pc2 := 106) op165_105 rfl rfl ?_
              refine rx_p (L2 := [some (.ref 115), some (.int a1), some (.int a2), some (.int x5)]) (S2 := [.int ((1 : Int32) + a1), .ref 116]) (pc2 := 107) op165_106 rfl rfl ?_
              refine rx_p (L2 := [some (.ref 115), some (.int a1), some (.int a2), some (.int x5)]) (S2 := [.int a2, .int ((1 : Int32) + a1), .ref 116]) (pc2 := 108) op165_107 rfl rfl ?_
              obtain ⟨x34, gc38, h⟩ := rq_bind h
              try dsimp only at h
              have c38 : ∀ (o31 o32 o33 : Option Value), rn_R xs (d + 1) 165 117 [some (.ref 115), o31, o32, o33] [.int x34, .int ((1 : Int32) + a1), .ref 116] (rn_SH, m13) (some (.int rO)) (rn_SH, mO) := by
                intro o31 o32 o33
                obtain ⟨k36, h⟩ := rq_chk h
                obtain ⟨m35, em35, h⟩ := rq_bv h
                refine rx_is (m2 := m35) (pc2 := 118) op165_117 sp_116 k36 rfl em35 rfl ?_
                refine rx_p (L2 := [some (.ref 115), o31, o32, o33]) (S2 := [.ref 115]) (pc2 := 119) op165_118 rfl rfl ?_
                refine rx_gf (v := .ref 116) (pc2 := 122) op165_119 sp_115 rfl rfl rfl ?_
                refine rx_bp (v := 11) (pc2 := 124) op165_122 (by decide) rfl ?_
                refine rx_ic (v := 0) (pc2 := 125) op165_124 (by decide) rfl ?_
                obtain ⟨m37, em37, h⟩ := rq_bv h
                refine rx_is (j := 11) (m2 := m37) (pc2 := 126) op165_125 sp_116 (by decide) (by decide) em37 rfl ?_
                refine rx_ic (v := 1) (pc2 := 127) op165_126 (by decide) rfl ?_
                obtain ⟨rfl, rfl⟩ := rq_ret h
                exact ry_ri op165_127 ms_165 rfl
              refine ry_if_ge (tgt := 116) (pc2 := 111) op165_108 (by decide) (by decide) rfl (fun b30 => ?_) (fun b30 => ?_)
              · have gc38 := (if_pos b30).symm.trans gc38
                refine rx_bp (v := (-4)) (pc2 := 113) op165_111 (by decide) rfl ?_
                refine ry_go (tgt := 117) op165_113 (by decide) (by decide) ?_
                cases gc38
                exact c38 _ _ _
              · have gc38 := (if_neg b30).symm.trans gc38
                refine rx_p (L2 := [some (.ref 115), some (.int a1), some (.int a2), some (.int x5)]) (S2 := [.int a2, .int ((1 : Int32) + a1), .ref 116]) (pc2 := 117) op165_116 rfl rfl ?_
                cases gc38
                exact c38 _ _ _
      refine ry_ic_eq (tgt := 53) (pc2 := 47) op165_44 (by decide) (by decide) rfl (fun b10 => ?_) (fun b10 => ?_)
      · have gc39 := (if_pos b10).symm.trans gc39
        refine rx_ld2 (v := (-1)) (pc2 := 56) op165_53 (by decide) rfl ?_
        refine ry_go (tgt := 60) op165_56 (by decide) (by decide) ?_
        cases gc39
        exact c39 ()
      · have gc39 := (if_neg b10).symm.trans gc39
        refine rx_p (L2 := [some (.ref 115), some (.int a1), some (.int a2), some (.int x5)]) (S2 := [.int a1, .long (a2.toInt64)]) (pc2 := 48) op165_47 rfl rfl ?_
        refine rx_bp (v := 7) (pc2 := 50) op165_48 (by decide) rfl ?_
        refine ry_ic_ne (tgt := 59) (pc2 := 53) op165_50 (by decide) (by decide) rfl (fun b11 => ?_) (fun b11 => ?_)
        · have gc39 := (if_pos b11).symm.trans gc39
          refine rx_ld2 (v := (-1)) (pc2 := 56) op165_53 (by decide) rfl ?_
          refine ry_go (tgt := 60) op165_56 (by decide) (by decide) ?_
          cases gc39
          exact c39 ()
        · have gc39 := (if_neg b11).symm.trans gc39
          refine rx_lc (v := 0) (pc2 := 60) op165_59 (by decide) rfl ?_
          cases gc39
          exact c39 ()
  refine ry_ic_eq (tgt := 11) (pc2 := 5) op165_2 (by decide) (by decide) rfl (fun b1 => ?_) (fun b1 => ?_)
  · have gc40 := (if_pos b1).symm.trans gc40
    refine rx_ic (v := 3) (pc2 := 12) op165_11 (by decide) rfl ?_
    refine ry_go (tgt := 25) op165_12 (by decide) (by decide) ?_
    cases gc40
    exact c40 _
  · have gc40 := (if_neg b1).symm.trans gc40
    refine rx_p (L2 := [some (.ref 115), some (.int a1), some (.int a2), none]) (S2 := [.int a1]) (pc2 := 6) op165_5 rfl rfl ?_
    refine rx_bp (v := 7) (pc2 := 8) op165_6 (by decide) rfl ?_
    refine ry_ic_ne (tgt := 15) (pc2 := 11) op165_8 (by decide) (by decide) rfl (fun b2 => ?_) (fun b2 => ?_)
    · have gc40 := (if_pos b2).symm.trans gc40
      refine rx_ic (v := 3) (pc2 := 12) op165_11 (by decide) rfl ?_
      refine ry_go (tgt := 25) op165_12 (by decide) (by decide) ?_
      cases gc40
      exact c40 _
    · have gc40 := (if_neg b2).symm.trans gc40
      refine rx_p (L2 := [some (.ref 115), some (.int a1), some (.int a2), none]) (S2 := [.int a1]) (pc2 := 16) op165_15 rfl rfl ?_
      refine rx_ic (v := 4) (pc2 := 17) op165_16 (by decide) rfl ?_
      refine ry_ic_ne (tgt := 24) (pc2 := 20) op165_17 (by decide) (by decide) rfl (fun b3 => ?_) (fun b3 => ?_)
      · have gc40 := (if_pos b3).symm.trans gc40
        refine rx_ic (v := 2) (pc2 := 21) op165_20 (by decide) rfl ?_
        refine ry_go (tgt := 25) op165_21 (by decide) (by decide) ?_
        cases gc40
        exact c40 _
      · have gc40 := (if_neg b3).symm.trans gc40
        refine rx_ic (v := 1) (pc2 := 25) op165_24 (by decide) rfl ?_
        cases gc40
        exact c40 _
/-! mo_isChair -/
theorem op167_0 : rn_op 167 0 = some (.iload_n 1, 1, 0, 0, 0) := by decide +kernel
theorem op167_1 : rn_op 167 1 = some (.i2l, 1, 0, 0, 0) := by decide +kernel
theorem op167_2 : rn_op 167 2 = some (.lconst 0, 1, 0, 0, 0) := by decide +kernel
theorem op167_3 : rn_op 167 3 = some (.aload_n 0, 1, 0, 0, 0) := by decide +kernel
theorem op167_4 : rn_op 167 4 = some (.getfield 7, 3, 11, 0, 3) := by decide +kernel
theorem op167_7 : rn_op 167 7 = some (.iconst 1, 1, 0, 0, 0) := by decide +kernel
theorem op167_8 : rn_op 167 8 = some (.iaload, 1, 0, 0, 0) := by decide +kernel
theorem op167_9 : rn_op 167 9 = some (.iconst 1, 1, 0, 0, 0) := by decide +kernel
theorem op167_10 : rn_op 167 10 = some (.isub, 1, 0, 0, 0) := by decide +kernel
theorem op167_11 : rn_op 167 11 = some (.i2l, 1, 0, 0, 0) := by decide +kernel
theorem op167_12 : rn_op 167 12 = some (.invokestatic 121, 3, 147, 3, 0) := by decide +kernel
theorem op167_15 : rn_op 167 15 = some (.ireturn, 1, 0, 0, 0) := by decide +kernel
def mo_isChair (n : Nat) (a1 : Int32) (m : rn_Mem) : Option (Int32 × rn_Mem) :=
  (mo_in n (a1.toInt64) 0 (((m.1 116 1) - 1).toInt64) m).bind fun (r2, m1) =>
  if r2 = 0 ∨ r2 = 1 then
    some (r2, m1)
  else none
set_option maxHeartbeats 4000000 in
set_option maxRecDepth 20000 in
theorem mo_isChair_ok (xs : List Int32) {d : Nat} (hd : 1 ≤ d) {n : Nat} {a1 : Int32} {m mO : rn_Mem} {rO : Int32} (h : mo_isChair n a1 m = some (rO, mO)) : rn_R xs d 167 0 (rn_ent 2 [.ref 115, .int a1]) [] (rn_SH, m) (some (.int rO)) (rn_SH, mO) := by
  obtain ⟨d, rfl⟩ : ∃ e, d = e + 1 := ⟨d - 1, by omega⟩
  unfold mo_isChair at h
  show rn_R xs (d + 1) 167 0 [some (.ref 115), some (.int a1)] [] (rn_SH, m) (some (.int rO)) (rn_SH, mO)
  refine rx_p (L2 := [some (.ref 115), some (.int a1)]) (S2 := [.int a1]) (pc2 := 1) op167_0 rfl rfl ?_
  refine rx_p (L2 := [some (.ref 115), some (.int a1)]) (S2 := [.long (a1.toInt64)]) (pc2 := 2) op167_1 rfl rfl ?_
  refine rx_lc (v := 0) (pc2 := 3) op167_2 (by decide) rfl ?_
  refine rx_p (L2 := [some (.ref 115), some (.int a1)]) (S2 := [.ref 115, .long 0, .long (a1.toInt64)]) (pc2 := 4) op167_3 rfl rfl ?_
  refine rx_gf (v := .ref 116) (pc2 := 7) op167_4 sp_115 rfl rfl rfl ?_
  refine rx_ic (v := 1) (pc2 := 8) op167_7 (by decide) rfl ?_
  refine rx_ia (j := 1) (pc2 := 9) op167_8 (rn_shlt sp_116) sp_116 (by decide) (by decide) rfl ?_
  refine rx_ic (v := 1) (pc2 := 10) op167_9 (by decide) rfl ?_
  refine rx_p (L2 := [some (.ref 115), some (.int a1)]) (S2 := [.int ((m.1 116 1) - 1), .long 0, .long (a1.toInt64)]) (pc2 := 11) op167_10 rfl rfl ?_
  refine rx_p (L2 := [some (.ref 115), some (.int a1)]) (S2 := [.long (((m.1 116 1) - 1).toInt64), .long 0, .long (a1.toInt64)]) (pc2 := 12) op167_11 rfl rfl ?_
  obtain ⟨⟨r2, m1⟩, f3, h⟩ := rq_bind h
  try dsimp only at h
  refine ry_is (vs := [.long (a1.toInt64), .long 0, .long (((m.1 116 1) - 1).toInt64)]) (T := []) (pc2 := 15) op167_12 (by decide) ms_147 (by decide) rfl rfl (Nat.le_of_ble_eq_true rfl) (Nat.le_of_ble_eq_true rfl) (mo_in_ok xs (by omega)  f3) rfl ?_
  show rn_R _ _ _ _ _ [.int r2] _ _ _
  obtain ⟨k4, h⟩ := rq_chk h
  obtain ⟨rfl, rfl⟩ := rq_ret h
  exact ry_rz (x := r2) op167_15 ms_167 rfl k4
/-! mo_heap -/
theorem op166_0 : rn_op 166 0 = some (.iload_n 1, 1, 0, 0, 0) := by decide +kernel
theorem op166_1 : rn_op 166 1 = some (.i2l, 1, 0, 0, 0) := by decide +kernel
theorem op166_2 : rn_op 166 2 = some (.lconst 0, 1, 0, 0, 0) := by decide +kernel
theorem op166_3 : rn_op 166 3 = some (.ldc2_w 153, 3, 3, 0, 0) := by decide +kernel
theorem op166_6 : rn_op 166 6 = some (.invokestatic 121, 3, 147, 3, 0) := by decide +kernel
theorem op166_9 : rn_op 166 9 = some (.ifCond .eq 17, 3, 0, 0, 0) := by decide +kernel
theorem op166_12 : rn_op 166 12 = some (.iload_n 2, 1, 0, 0, 0) := by decide +kernel
theorem op166_13 : rn_op 166 13 = some (.i2l, 1, 0, 0, 0) := by decide +kernel
theorem op166_14 : rn_op 166 14 = some (.ldc2_w 178, 3, 18446744073709551615, 0, 0) := by decide +kernel
theorem op166_17 : rn_op 166 17 = some (.ldc2_w 180, 3, 11, 0, 0) := by decide +kernel
theorem op166_20 : rn_op 166 20 = some (.invokestatic 121, 3, 147, 3, 0) := by decide +kernel
theorem op166_23 : rn_op 166 23 = some (.ifCond .ne 5, 3, 0, 0, 0) := by decide +kernel
theorem op166_26 : rn_op 166 26 = some (.iconst (-1), 1, 0, 0, 0) := by decide +kernel
theorem op166_27 : rn_op 166 27 = some (.ireturn, 1, 0, 0, 0) := by decide +kernel
theorem op166_28 : rn_op 166 28 = some (.aload_n 0, 1, 0, 0, 0) := by decide +kernel
theorem op166_29 : rn_op 166 29 = some (.getfield 7, 3, 11, 0, 3) := by decide +kernel
theorem op166_32 : rn_op 166 32 = some (.bipush 9, 2, 0, 0, 0) := by decide +kernel
theorem op166_34 : rn_op 166 34 = some (.iaload, 1, 0, 0, 0) := by decide +kernel
theorem op166_35 : rn_op 166 35 = some (.ifCond .ne 6, 3, 0, 0, 0) := by decide +kernel
theorem op166_38 : rn_op 166 38 = some (.bipush (-2), 2, 0, 0, 0) := by decide +kernel
theorem op166_40 : rn_op 166 40 = some (.ireturn, 1, 0, 0, 0) := by decide +kernel
theorem op166_41 : rn_op 166 41 = some (.aload_n 0, 1, 0, 0, 0) := by decide +kernel
theorem op166_42 : rn_op 166 42 = some (.iload_n 1, 1, 0, 0, 0) := by decide +kernel
theorem op166_43 : rn_op 166 43 = some (.invokevirtual 182, 3, 167, 2, 11) := by decide +kernel
theorem op166_46 : rn_op 166 46 = some (.ifCond .eq 16, 3, 0, 0, 0) := by decide +kernel
theorem op166_49 : rn_op 166 49 = some (.iload_n 2, 1, 0, 0, 0) := by decide +kernel
theorem op166_50 : rn_op 166 50 = some (.aload_n 0, 1, 0, 0, 0) := by decide +kernel
theorem op166_51 : rn_op 166 51 = some (.getfield 7, 3, 11, 0, 3) := by decide +kernel
theorem op166_54 : rn_op 166 54 = some (.bipush 12, 2, 0, 0, 0) := by decide +kernel
theorem op166_56 : rn_op 166 56 = some (.iload_n 1, 1, 0, 0, 0) := by decide +kernel
theorem op166_57 : rn_op 166 57 = some (.iadd, 1, 0, 0, 0) := by decide +kernel
theorem op166_58 : rn_op 166 58 = some (.iaload, 1, 0, 0, 0) := by decide +kernel
theorem op166_59 : rn_op 166 59 = some (.if_icmp .lt 5, 3, 0, 0, 0) := by decide +kernel
theorem op166_62 : rn_op 166 62 = some (.iconst (-1), 1, 0, 0, 0) := by decide +kernel
theorem op166_63 : rn_op 166 63 = some (.ireturn, 1, 0, 0, 0) := by decide +kernel
theorem op166_64 : rn_op 166 64 = some (.iload_n 2, 1, 0, 0, 0) := by decide +kernel
theorem op166_65 : rn_op 166 65 = some (.ifCond .ge 13, 3, 0, 0, 0) := by decide +kernel
theorem op166_68 : rn_op 166 68 = some (.aload_n 0, 1, 0, 0, 0) := by decide +kernel
theorem op166_69 : rn_op 166 69 = some (.getfield 7, 3, 11, 0, 3) := by decide +kernel
theorem op166_72 : rn_op 166 72 = some (.bipush 12, 2, 0, 0, 0) := by decide +kernel
theorem op166_74 : rn_op 166 74 = some (.iload_n 1, 1, 0, 0, 0) := by decide +kernel
theorem op166_75 : rn_op 166 75 = some (.iadd, 1, 0, 0, 0) := by decide +kernel
theorem op166_76 : rn_op 166 76 = some (.iaload, 1, 0, 0, 0) := by decide +kernel
theorem op166_77 : rn_op 166 77 = some (.ireturn, 1, 0, 0, 0) := by decide +kernel
theorem op166_78 : rn_op 166 78 = some (.aload_n 0, 1, 0, 0, 0) := by decide +kernel
theorem op166_79 : rn_op 166 79 = some (.getfield 7, 3, 11, 0, 3) := by decide +kernel
theorem op166_82 : rn_op 166 82 = some (.bipush 16, 2, 0, 0, 0) := by decide +kernel
theorem op166_84 : rn_op 166 84 = some (.bipush 12, 2, 0, 0, 0) := by decide +kernel
theorem op166_86 : rn_op 166 86 = some (.iload_n 1, 1, 0, 0, 0) := by decide +kernel
theorem op166_87 : rn_op 166 87 = some (.imul, 1, 0, 0, 0) := by decide +kernel
theorem op166_88 : rn_op 166 88 = some (.iadd, 1, 0, 0, 0) := by decide +kernel
theorem op166_89 : rn_op 166 89 = some (.iload_n 2, 1, 0, 0, 0) := by decide +kernel
theorem op166_90 : rn_op 166 90 = some (.iadd, 1, 0, 0, 0) := by decide +kernel
theorem op166_91 : rn_op 166 91 = some (.iaload, 1, 0, 0, 0) := by decide +kernel
theorem op166_92 : rn_op 166 92 = some (.istore_n 3, 1, 0, 0, 0) := by decide +kernel
theorem op166_93 : rn_op 166 93 = some (.iload_n 3, 1, 0, 0, 0) := by decide +kernel
theorem op166_94 : rn_op 166 94 = some (.ifCond .ge 8, 3, 0, 0, 0) := by decide +kernel
theorem op166_97 : rn_op 166 97 = some (.bipush (-4), 2, 0, 0, 0) := by decide +kernel
theorem op166_99 : rn_op 166 99 = some (.goto 4, 3, 0, 0, 0) := by decide +kernel
theorem op166_102 : rn_op 166 102 = some (.iload_n 3, 1, 0, 0, 0) := by decide +kernel
theorem op166_103 : rn_op 166 103 = some (.ireturn, 1, 0, 0, 0) := by decide +kernel
def mo_heap (n : Nat) (a1 : Int32) (a2 : Int32) (m : rn_Mem) : Option (Int32 × rn_Mem) :=
  (mo_in n (a1.toInt64) 0 3 m).bind fun (r2, m1) =>
  if r2 = 0 then
    some ((-1), m1)
  else
    (mo_in n (a2.toInt64) (-1) 11 m1).bind fun (r6, m5) =>
    if r6 = 0 then
      some ((-1), m5)
    else
      if (m5.1 116 9) = 0 then
        some ((-2), m5)
      else
        (mo_isChair n a1 m5).bind fun (r11, m10) =>
        if r11 = 0 then
          some ((-1), m10)
        else
          if rn_in ((12 : Int32) + a1) 101 = true then
            if a2 < (m10.1 116 ((12 : Int32) + a1).toNatClampNeg) then
              if a2 < 0 then
                if rn_in ((12 : Int32) + a1) 101 = true then
                  some (m10.1 116 ((12 : Int32) + a1).toNatClampNeg, m10)
                else none
              else
                if rn_in (((16 : Int32) + ((12 : Int32) * a1)) + a2) 101 = true then
                  (some (m10.1 116 (((16 : Int32) + ((12 : Int32) * a1)) + a2).toNatClampNeg)).bind fun (x19 : Int32) =>
                  if x19 < 0 then
                    some ((-4), m10)
                  else
                    some (x19, m10)
                else none
            else
              some ((-1), m10)
          else none
set_option maxHeartbeats 4000000 in
set_option maxRecDepth 20000 in
theorem mo_heap_ok (xs : List Int32) {d : Nat} (hd : 2 ≤ d) {n : Nat} {a1 : Int32} {a2 : Int32} {m mO : rn_Mem} {rO : Int32} (h : mo_heap n a1 a2 m = some (rO, mO)) : rn_R xs d 166 0 (rn_ent 4 [.ref 115, .int a1, .int a2]) [] (rn_SH, m) (some (.int rO)) (rn_SH, mO) := by
  obtain ⟨d, rfl⟩ : ∃ e, d = e + 1 := ⟨d - 1, by omega⟩
  unfold mo_heap at h
  show rn_R xs (d + 1) 166 0 [some (.ref 115), some (.int a1), some (.int a2), none] [] (rn_SH, m) (some (.int rO)) (rn_SH, mO)
  refine rx_p (L2 := [some (.ref 115), some (.int a1), some (.int a2), none]) (S2 := [.int a1]) (pc2 := 1) op166_0 rfl rfl ?_
  refine rx_p (L2 := [some (.ref 115), some (.int a1), some (.int a2), none]) (S2 := [.long (a1.toInt64)]) (pc2 := 2) op166_1 rfl rfl ?_
  refine rx_lc (v := 0) (pc2 := 3) op166_2 (by decide) rfl ?_
  refine rx_ld2 (v := 3) (pc2 := 6) op166_3 (by decide) rfl ?_
  obtain ⟨⟨r2, m1⟩, f3, h⟩ := rq_bind h
  try dsimp only at h
  refine ry_is (vs := [.long (a1.toInt64), .long 0, .long 3]) (T := []) (pc2 := 9) op166_6 (by decide) ms_147 (by decide) rfl rfl (Nat.le_of_ble_eq_true rfl) (Nat.le_of_ble_eq_true rfl) (mo_in_ok xs (by omega)  f3) rfl ?_
  show rn_R _ _ _ _ _ [.int r2] _ _ _
  refine ry_if_eq (tgt := 26) (pc2 := 12) op166_9 (by decide) (by decide) rfl (fun b4 => ?_) (fun b4 => ?_)
  · have h := (if_pos b4).symm.trans h
    refine rx_ic (v := (-1)) (pc2 := 27) op166_26 (by decide) rfl ?_
    obtain ⟨rfl, rfl⟩ := rq_ret h
    exact ry_ri op166_27 ms_166 rfl
  · have h := (if_neg b4).symm.trans h
    refine rx_p (L2 := [some (.ref 115), some (.int a1), some (.int a2), none]) (S2 := [.int a2]) (pc2 := 13) op166_12 rfl rfl ?_
    refine rx_p (L2 := [some (.ref 115), some (.int a1), some (.int a2), none]) (S2 := [.long (a2.toInt64)]) (pc2 := 14) op166_13 rfl rfl ?_
    refine rx_ld2 (v := (-1)) (pc2 := 17) op166_14 (by decide) rfl ?_
    refine rx_ld2 (v := 11) (pc2 := 20) op166_17 (by decide) rfl ?_
    obtain ⟨⟨r6, m5⟩, f7, h⟩ := rq_bind h
    try dsimp only at h
    refine ry_is (vs := [.long (a2.toInt64), .long (-1), .long 11]) (T := []) (pc2 := 23) op166_20 (by decide) ms_147 (by decide) rfl rfl (Nat.le_of_ble_eq_true rfl) (Nat.le_of_ble_eq_true rfl) (mo_in_ok xs (by omega)  f7) rfl ?_
    show rn_R _ _ _ _ _ [.int r6] _ _ _
    refine ry_if_ne (tgt := 28) (pc2 := 26) op166_23 (by decide) (by decide) rfl (fun b8 => ?_) (fun b8 => ?_)
    · have h := (if_pos b8).symm.trans h
      refine rx_ic (v := (-1)) (pc2 := 27) op166_26 (by decide) rfl ?_
      obtain ⟨rfl, rfl⟩ := rq_ret h
      exact ry_ri op166_27 ms_166 rfl
    · have h := (if_neg b8).symm.trans h
      refine rx_p (L2 := [some (.ref 115), some (.int a1), some (.int a2), none]) (S2 := [.ref 115]) (pc2 := 29) op166_28 rfl rfl ?_
      refine rx_gf (v := .ref 116) (pc2 := 32) op166_29 sp_115 rfl rfl rfl ?_
      refine rx_bp (v := 9) (pc2 := 34) op166_32 (by decide) rfl ?_
      refine rx_ia (j := 9) (pc2 := 35) op166_34 (rn_shlt sp_116) sp_116 (by decide) (by decide) rfl ?_
      refine ry_if_ne (tgt := 41) (pc2 := 38) op166_35 (by decide) (by decide) rfl (fun b9 => ?_) (fun b9 => ?_)
      · have h := (if_pos b9).symm.trans h
        refine rx_bp (v := (-2)) (pc2 := 40) op166_38 (by decide) rfl ?_
        obtain ⟨rfl, rfl⟩ := rq_ret h
        exact ry_ri op166_40 ms_166 rfl
      · have h := (if_neg b9).symm.trans h
        refine rx_p (L2 := [some (.ref 115), some (.int a1), some (.int a2), none]) (S2 := [.ref 115]) (pc2 := 42) op166_41 rfl rfl ?_
        refine rx_p (L2 := [some (.ref 115), some (.int a1), some (.int a2), none]) (S2 := [.int a1, .ref 115]) (pc2 := 43) op166_42 rfl rfl ?_
        obtain ⟨⟨r11, m10⟩, f12, h⟩ := rq_bind h
        try dsimp only at h
        refine ry_iv (p := 115) (vs := [.int a1]) (T := []) (pc2 := 46) op166_43 ms_167 (by decide) rfl rfl (Nat.le_of_ble_eq_true rfl) (Nat.le_of_ble_eq_true rfl) sp_115 (mo_isChair_ok xs (by omega)  f12) rfl ?_
        show rn_R _ _ _ _ _ [.int r11] _ _ _
        refine ry_if_eq (tgt := 62) (pc2 := 49) op166_46 (by decide) (by decide) rfl (fun b13 => ?_) (fun b13 => ?_)
        · have h := (if_pos b13).symm.trans h
          refine rx_ic (v := (-1)) (pc2 := 63) op166_62 (by decide) rfl ?_
          obtain ⟨rfl, rfl⟩ := rq_ret h
          exact ry_ri op166_63 ms_166 rfl
        · have h := (if_neg b13).symm.trans h
          refine rx_p (L2 := [some (.ref 115), some (.int a1), some (.int a2), none]) (S2 := [.int a2]) (pc2 := 50) op166_49 rfl rfl ?_
          refine rx_p (L2 := [some (.ref 115), some (.int a1), some (.int a2), none]) (S2 := [.ref 115, .int a2]) (pc2 := 51) op166_50 rfl rfl ?_
          refine rx_gf (v := .ref 116) (pc2 := 54) op166_51 sp_115 rfl rfl rfl ?_
          refine rx_bp (v := 12) (pc2 := 56) op166_54 (by decide) rfl ?_
          refine rx_p (L2 := [some (.ref 115), some (.int a1), some (.int a2), none]) (S2 := [.int a1, .int 12, .ref 116, .int a2]) (pc2 := 57) op166_56 rfl rfl ?_
          refine rx_p (L2 := [some (.ref 115), some (.int a1), some (.int a2), none]) (S2 := [.int ((12 : Int32) + a1), .ref 116, .int a2]) (pc2 := 58) op166_57 rfl rfl ?_
          obtain ⟨k14, h⟩ := rq_chk h
          refine rx_ia (pc2 := 59) op166_58 (rn_shlt sp_116) sp_116 k14 rfl rfl ?_
          refine ry_ic_lt (tgt := 64) (pc2 := 62) op166_59 (by decide) (by decide) rfl (fun b15 => ?_) (fun b15 => ?_)
          · have h := (if_pos b15).symm.trans h
            refine rx_p (L2 := [some (.ref 115), some (.int a1), some (.int a2), none]) (S2 := [.int a2]) (pc2 := 65) op166_64 rfl rfl ?_
            refine ry_if_ge (tgt := 78) (pc2 := 68) op166_65 (by decide) (by decide) rfl (fun b16 => ?_) (fun b16 => ?_)
            · have h := (if_pos b16).symm.trans h
              refine rx_p (L2 := [some (.ref 115), some (.int a1), some (.int a2), none]) (S2 := [.ref 115]) (pc2 := 69) op166_68 rfl rfl ?_
              refine rx_gf (v := .ref 116) (pc2 := 72) op166_69 sp_115 rfl rfl rfl ?_
              refine rx_bp (v := 12) (pc2 := 74) op166_72 (by decide) rfl ?_
              refine rx_p (L2 := [some (.ref 115), some (.int a1), some (.int a2), none]) (S2 := [.int a1, .int 12, .ref 116]) (pc2 := 75) op166_74 rfl rfl ?_
              refine rx_p (L2 := [some (.ref 115), some (.int a1), some (.int a2), none]) (S2 := [.int ((12 : Int32) + a1), .ref 116]) (pc2 := 76) op166_75 rfl rfl ?_
              obtain ⟨k17, h⟩ := rq_chk h
              refine rx_ia (pc2 := 77) op166_76 (rn_shlt sp_116) sp_116 k17 rfl rfl ?_
              obtain ⟨rfl, rfl⟩ := rq_ret h
              exact ry_ri op166_77 ms_166 rfl
            · have h := (if_neg b16).symm.trans h
              refine rx_p (L2 := [some (.ref 115), some (.int a1), some (.int a2), none]) (S2 := [.ref 115]) (pc2 := 79) op166_78 rfl rfl ?_
              refine rx_gf (v := .ref 116) (pc2 := 82) op166_79 sp_115 rfl rfl rfl ?_
              refine rx_bp (v := 16) (pc2 := 84) op166_82 (by decide) rfl ?_
              refine rx_bp (v := 12) (pc2 := 86) op166_84 (by decide) rfl ?_
              refine rx_p (L2 := [some (.ref 115), some (.int a1), some (.int a2), none]) (S2 := [.int a1, .int 12, .int 16, .ref 116]) (pc2 := 87) op166_86 rfl rfl ?_
              refine rx_p (L2 := [some (.ref 115), some (.int a1), some (.int a2), none]) (S2 := [.int ((12 : Int32) * a1), .int 16, .ref 116]) (pc2 := 88) op166_87 rfl rfl ?_
              refine rx_p (L2 := [some (.ref 115), some (.int a1), some (.int a2), none]) (S2 := [.int ((16 : Int32) + ((12 : Int32) * a1)), .ref 116]) (pc2 := 89) op166_88 rfl rfl ?_
              refine rx_p (L2 := [some (.ref 115), some (.int a1), some (.int a2), none]) (S2 := [.int a2, .int ((16 : Int32) + ((12 : Int32) * a1)), .ref 116]) (pc2 := 90) op166_89 rfl rfl ?_
              refine rx_p (L2 := [some (.ref 115), some (.int a1), some (.int a2), none]) (S2 := [.int (((16 : Int32) + ((12 : Int32) * a1)) + a2), .ref 116]) (pc2 := 91) op166_90 rfl rfl ?_
              obtain ⟨k18, h⟩ := rq_chk h
              refine rx_ia (pc2 := 92) op166_91 (rn_shlt sp_116) sp_116 k18 rfl rfl ?_
              obtain ⟨x19, ex19, h⟩ := rq_bv h
              refine rx_s (v := x19) (L2 := [some (.ref 115), some (.int a1), some (.int a2), some (.int x19)]) (pc2 := 93) op166_92 ex19 rfl rfl ?_
              refine rx_p (L2 := [some (.ref 115), some (.int a1), some (.int a2), some (.int x19)]) (S2 := [.int x19]) (pc2 := 94) op166_93 rfl rfl ?_
              refine ry_if_ge (tgt := 102) (pc2 := 97) op166_94 (by decide) (by decide) rfl (fun b20 => ?_) (fun b20 => ?_)
              · have h := (if_pos b20).symm.trans h
                refine rx_bp (v := (-4)) (pc2 := 99) op166_97 (by decide) rfl ?_
                refine ry_go (tgt := 103) op166_99 (by decide) (by decide) ?_
                obtain ⟨rfl, rfl⟩ := rq_ret h
                exact ry_ri op166_103 ms_166 rfl
              · have h := (if_neg b20).symm.trans h
                refine rx_p (L2 := [some (.ref 115), some (.int a1), some (.int a2), some (.int x19)]) (S2 := [.int x19]) (pc2 := 103) op166_102 rfl rfl ?_
                obtain ⟨rfl, rfl⟩ := rq_ret h
                exact ry_ri op166_103 ms_166 rfl
          · have h := (if_neg b15).symm.trans h
            refine rx_ic (v := (-1)) (pc2 := 63) op166_62 (by decide) rfl ?_
            obtain ⟨rfl, rfl⟩ := rq_ret h
            exact ry_ri op166_63 ms_166 rfl
/-! mo_isInPack -/
theorem op169_0 : rn_op 169 0 = some (.iload_n 1, 1, 0, 0, 0) := by decide +kernel
theorem op169_1 : rn_op 169 1 = some (.i2l, 1, 0, 0, 0) := by decide +kernel
theorem op169_2 : rn_op 169 2 = some (.lconst 0, 1, 0, 0, 0) := by decide +kernel
theorem op169_3 : rn_op 169 3 = some (.ldc2_w 125, 3, 15, 0, 0) := by decide +kernel
theorem op169_6 : rn_op 169 6 = some (.invokestatic 121, 3, 147, 3, 0) := by decide +kernel
theorem op169_9 : rn_op 169 9 = some (.ifCond .eq 21, 3, 0, 0, 0) := by decide +kernel
theorem op169_12 : rn_op 169 12 = some (.aload_n 0, 1, 0, 0, 0) := by decide +kernel
theorem op169_13 : rn_op 169 13 = some (.getfield 7, 3, 11, 0, 3) := by decide +kernel
theorem op169_16 : rn_op 169 16 = some (.iconst 3, 1, 0, 0, 0) := by decide +kernel
theorem op169_17 : rn_op 169 17 = some (.iaload, 1, 0, 0, 0) := by decide +kernel
theorem op169_18 : rn_op 169 18 = some (.iload_n 1, 1, 0, 0, 0) := by decide +kernel
theorem op169_19 : rn_op 169 19 = some (.ishr, 1, 0, 0, 0) := by decide +kernel
theorem op169_20 : rn_op 169 20 = some (.iconst 1, 1, 0, 0, 0) := by decide +kernel
theorem op169_21 : rn_op 169 21 = some (.iand, 1, 0, 0, 0) := by decide +kernel
theorem op169_22 : rn_op 169 22 = some (.iconst 1, 1, 0, 0, 0) := by decide +kernel
theorem op169_23 : rn_op 169 23 = some (.if_icmp .ne 7, 3, 0, 0, 0) := by decide +kernel
theorem op169_26 : rn_op 169 26 = some (.iconst 1, 1, 0, 0, 0) := by decide +kernel
theorem op169_27 : rn_op 169 27 = some (.goto 4, 3, 0, 0, 0) := by decide +kernel
theorem op169_30 : rn_op 169 30 = some (.iconst 0, 1, 0, 0, 0) := by decide +kernel
theorem op169_31 : rn_op 169 31 = some (.ireturn, 1, 0, 0, 0) := by decide +kernel
def mo_isInPack (n : Nat) (a1 : Int32) (m : rn_Mem) : Option (Int32 × rn_Mem) :=
  (mo_in n (a1.toInt64) 0 15 m).bind fun (r2, m1) =>
  if r2 = 0 then
    some (0, m1)
  else
    if (((m1.1 116 3) >>> (a1 &&& 31)) &&& 1) = 1 then
      some (1, m1)
    else
      some (0, m1)
set_option maxHeartbeats 4000000 in
set_option maxRecDepth 20000 in
theorem mo_isInPack_ok (xs : List Int32) {d : Nat} (hd : 1 ≤ d) {n : Nat} {a1 : Int32} {m mO : rn_Mem} {rO : Int32} (h : mo_isInPack n a1 m = some (rO, mO)) : rn_R xs d 169 0 (rn_ent 2 [.ref 115, .int a1]) [] (rn_SH, m) (some (.int rO)) (rn_SH, mO) := by
  obtain ⟨d, rfl⟩ : ∃ e, d = e + 1 := ⟨d - 1, by omega⟩
  unfold mo_isInPack at h
  show rn_R xs (d + 1) 169 0 [some (.ref 115), some (.int a1)] [] (rn_SH, m) (some (.int rO)) (rn_SH, mO)
  refine rx_p (L2 := [some (.ref 115), some (.int a1)]) (S2 := [.int a1]) (pc2 := 1) op169_0 rfl rfl ?_
  refine rx_p (L2 := [some (.ref 115), some (.int a1)]) (S2 := [.long (a1.toInt64)]) (pc2 := 2) op169_1 rfl rfl ?_
  refine rx_lc (v := 0) (pc2 := 3) op169_2 (by decide) rfl ?_
  refine rx_ld2 (v := 15) (pc2 := 6) op169_3 (by decide) rfl ?_
  obtain ⟨⟨r2, m1⟩, f3, h⟩ := rq_bind h
  try dsimp only at h
  refine ry_is (vs := [.long (a1.toInt64), .long 0, .long 15]) (T := []) (pc2 := 9) op169_6 (by decide) ms_147 (by decide) rfl rfl (Nat.le_of_ble_eq_true rfl) (Nat.le_of_ble_eq_true rfl) (mo_in_ok xs (by omega)  f3) rfl ?_
  show rn_R _ _ _ _ _ [.int r2] _ _ _
  refine ry_if_eq (tgt := 30) (pc2 := 12) op169_9 (by decide) (by decide) rfl (fun b4 => ?_) (fun b4 => ?_)
  · have h := (if_pos b4).symm.trans h
    refine rx_ic (v := 0) (pc2 := 31) op169_30 (by decide) rfl ?_
    obtain ⟨rfl, rfl⟩ := rq_ret h
    exact ry_rz (x := 0) op169_31 ms_169 rfl (by decide)
  · have h := (if_neg b4).symm.trans h
    refine rx_p (L2 := [some (.ref 115), some (.int a1)]) (S2 := [.ref 115]) (pc2 := 13) op169_12 rfl rfl ?_
    refine rx_gf (v := .ref 116) (pc2 := 16) op169_13 sp_115 rfl rfl rfl ?_
    refine rx_ic (v := 3) (pc2 := 17) op169_16 (by decide) rfl ?_
    refine rx_ia (j := 3) (pc2 := 18) op169_17 (rn_shlt sp_116) sp_116 (by decide) (by decide) rfl ?_
    refine rx_p (L2 := [some (.ref 115), some (.int a1)]) (S2 := [.int a1, .int (m1.1 116 3)]) (pc2 := 19) op169_18 rfl rfl ?_
    refine rx_p (L2 := [some (.ref 115), some (.int a1)]) (S2 := [.int ((m1.1 116 3) >>> (a1 &&& 31))]) (pc2 := 20) op169_19 rfl rfl ?_
    refine rx_ic (v := 1) (pc2 := 21) op169_20 (by decide) rfl ?_
    refine rx_p (L2 := [some (.ref 115), some (.int a1)]) (S2 := [.int (((m1.1 116 3) >>> (a1 &&& 31)) &&& 1)]) (pc2 := 22) op169_21 rfl rfl ?_
    refine rx_ic (v := 1) (pc2 := 23) op169_22 (by decide) rfl ?_
    refine ry_ic_ne (tgt := 30) (pc2 := 26) op169_23 (by decide) (by decide) rfl (fun b5 => ?_) (fun b5 => ?_)
    · have h := (if_pos b5).symm.trans h
      refine rx_ic (v := 1) (pc2 := 27) op169_26 (by decide) rfl ?_
      refine ry_go (tgt := 31) op169_27 (by decide) (by decide) ?_
      obtain ⟨rfl, rfl⟩ := rq_ret h
      exact ry_rz (x := 1) op169_31 ms_169 rfl (by decide)
    · have h := (if_neg b5).symm.trans h
      refine rx_ic (v := 0) (pc2 := 31) op169_30 (by decide) rfl ?_
      obtain ⟨rfl, rfl⟩ := rq_ret h
      exact ry_rz (x := 0) op169_31 ms_169 rfl (by decide)
/-! mo_wins -/
theorem op168_0 : rn_op 168 0 = some (.iload_n 1, 1, 0, 0, 0) := by decide +kernel
theorem op168_1 : rn_op 168 1 = some (.i2l, 1, 0, 0, 0) := by decide +kernel
theorem op168_2 : rn_op 168 2 = some (.lconst 0, 1, 0, 0, 0) := by decide +kernel
theorem op168_3 : rn_op 168 3 = some (.ldc2_w 188, 3, 65535, 0, 0) := by decide +kernel
theorem op168_6 : rn_op 168 6 = some (.invokestatic 121, 3, 147, 3, 0) := by decide +kernel
theorem op168_9 : rn_op 168 9 = some (.ifCond .eq 15, 3, 0, 0, 0) := by decide +kernel
theorem op168_12 : rn_op 168 12 = some (.iload_n 2, 1, 0, 0, 0) := by decide +kernel
theorem op168_13 : rn_op 168 13 = some (.i2l, 1, 0, 0, 0) := by decide +kernel
theorem op168_14 : rn_op 168 14 = some (.lconst 0, 1, 0, 0, 0) := by decide +kernel
theorem op168_15 : rn_op 168 15 = some (.ldc2_w 153, 3, 3, 0, 0) := by decide +kernel
theorem op168_18 : rn_op 168 18 = some (.invokestatic 121, 3, 147, 3, 0) := by decide +kernel
theorem op168_21 : rn_op 168 21 = some (.ifCond .ne 5, 3, 0, 0, 0) := by decide +kernel
theorem op168_24 : rn_op 168 24 = some (.iconst (-1), 1, 0, 0, 0) := by decide +kernel
theorem op168_25 : rn_op 168 25 = some (.ireturn, 1, 0, 0, 0) := by decide +kernel
theorem op168_26 : rn_op 168 26 = some (.aload_n 0, 1, 0, 0, 0) := by decide +kernel
theorem op168_27 : rn_op 168 27 = some (.getfield 7, 3, 11, 0, 3) := by decide +kernel
theorem op168_30 : rn_op 168 30 = some (.iconst 0, 1, 0, 0, 0) := by decide +kernel
theorem op168_31 : rn_op 168 31 = some (.iaload, 1, 0, 0, 0) := by decide +kernel
theorem op168_32 : rn_op 168 32 = some (.ifCond .ne 6, 3, 0, 0, 0) := by decide +kernel
theorem op168_35 : rn_op 168 35 = some (.bipush (-2), 2, 0, 0, 0) := by decide +kernel
theorem op168_37 : rn_op 168 37 = some (.ireturn, 1, 0, 0, 0) := by decide +kernel
theorem op168_38 : rn_op 168 38 = some (.aload_n 0, 1, 0, 0, 0) := by decide +kernel
theorem op168_39 : rn_op 168 39 = some (.iload_n 2, 1, 0, 0, 0) := by decide +kernel
theorem op168_40 : rn_op 168 40 = some (.invokevirtual 182, 3, 167, 2, 11) := by decide +kernel
theorem op168_43 : rn_op 168 43 = some (.ifCond .ne 5, 3, 0, 0, 0) := by decide +kernel
theorem op168_46 : rn_op 168 46 = some (.iconst (-1), 1, 0, 0, 0) := by decide +kernel
theorem op168_47 : rn_op 168 47 = some (.ireturn, 1, 0, 0, 0) := by decide +kernel
theorem op168_48 : rn_op 168 48 = some (.iconst 0, 1, 0, 0, 0) := by decide +kernel
theorem op168_49 : rn_op 168 49 = some (.istore_n 3, 1, 0, 0, 0) := by decide +kernel
theorem op168_50 : rn_op 168 50 = some (.iconst 0, 1, 0, 0, 0) := by decide +kernel
theorem op168_51 : rn_op 168 51 = some (.istore 4, 2, 0, 0, 0) := by decide +kernel
theorem op168_53 : rn_op 168 53 = some (.iload 4, 2, 0, 0, 0) := by decide +kernel
theorem op168_55 : rn_op 168 55 = some (.aload_n 0, 1, 0, 0, 0) := by decide +kernel
theorem op168_56 : rn_op 168 56 = some (.getfield 7, 3, 11, 0, 3) := by decide +kernel
theorem op168_59 : rn_op 168 59 = some (.iconst 1, 1, 0, 0, 0) := by decide +kernel
theorem op168_60 : rn_op 168 60 = some (.iaload, 1, 0, 0, 0) := by decide +kernel
theorem op168_61 : rn_op 168 61 = some (.if_icmp .ge 68, 3, 0, 0, 0) := by decide +kernel
theorem op168_64 : rn_op 168 64 = some (.aload_n 0, 1, 0, 0, 0) := by decide +kernel
theorem op168_65 : rn_op 168 65 = some (.getfield 19, 3, 11, 5, 3) := by decide +kernel
theorem op168_68 : rn_op 168 68 = some (.iload 4, 2, 0, 0, 0) := by decide +kernel
theorem op168_70 : rn_op 168 70 = some (.iload_n 1, 1, 0, 0, 0) := by decide +kernel
theorem op168_71 : rn_op 168 71 = some (.iconst 4, 1, 0, 0, 0) := by decide +kernel
theorem op168_72 : rn_op 168 72 = some (.iload 4, 2, 0, 0, 0) := by decide +kernel
theorem op168_74 : rn_op 168 74 = some (.imul, 1, 0, 0, 0) := by decide +kernel
theorem op168_75 : rn_op 168 75 = some (.ishr, 1, 0, 0, 0) := by decide +kernel
theorem op168_76 : rn_op 168 76 = some (.bipush 15, 2, 0, 0, 0) := by decide +kernel
theorem op168_78 : rn_op 168 78 = some (.iand, 1, 0, 0, 0) := by decide +kernel
theorem op168_79 : rn_op 168 79 = some (.iastore, 1, 0, 0, 0) := by decide +kernel
theorem op168_80 : rn_op 168 80 = some (.aload_n 0, 1, 0, 0, 0) := by decide +kernel
theorem op168_81 : rn_op 168 81 = some (.aload_n 0, 1, 0, 0, 0) := by decide +kernel
theorem op168_82 : rn_op 168 82 = some (.getfield 19, 3, 11, 5, 3) := by decide +kernel
theorem op168_85 : rn_op 168 85 = some (.iload 4, 2, 0, 0, 0) := by decide +kernel
theorem op168_87 : rn_op 168 87 = some (.iaload, 1, 0, 0, 0) := by decide +kernel
theorem op168_88 : rn_op 168 88 = some (.invokevirtual 190, 3, 169, 2, 11) := by decide +kernel
theorem op168_91 : rn_op 168 91 = some (.ifCond .eq 18, 3, 0, 0, 0) := by decide +kernel
theorem op168_94 : rn_op 168 94 = some (.iload_n 3, 1, 0, 0, 0) := by decide +kernel
theorem op168_95 : rn_op 168 95 = some (.aload_n 0, 1, 0, 0, 0) := by decide +kernel
theorem op168_96 : rn_op 168 96 = some (.getfield 19, 3, 11, 5, 3) := by decide +kernel
theorem op168_99 : rn_op 168 99 = some (.iload 4, 2, 0, 0, 0) := by decide +kernel
theorem op168_101 : rn_op 168 101 = some (.iaload, 1, 0, 0, 0) := by decide +kernel
theorem op168_102 : rn_op 168 102 = some (.ishr, 1, 0, 0, 0) := by decide +kernel
theorem op168_103 : rn_op 168 103 = some (.iconst 1, 1, 0, 0, 0) := by decide +kernel
theorem op168_104 : rn_op 168 104 = some (.iand, 1, 0, 0, 0) := by decide +kernel
theorem op168_105 : rn_op 168 105 = some (.iconst 1, 1, 0, 0, 0) := by decide +kernel
theorem op168_106 : rn_op 168 106 = some (.if_icmp .ne 5, 3, 0, 0, 0) := by decide +kernel
theorem op168_109 : rn_op 168 109 = some (.iconst (-1), 1, 0, 0, 0) := by decide +kernel
theorem op168_110 : rn_op 168 110 = some (.ireturn, 1, 0, 0, 0) := by decide +kernel
theorem op168_111 : rn_op 168 111 = some (.iload_n 3, 1, 0, 0, 0) := by decide +kernel
theorem op168_112 : rn_op 168 112 = some (.iconst 1, 1, 0, 0, 0) := by decide +kernel
theorem op168_113 : rn_op 168 113 = some (.aload_n 0, 1, 0, 0, 0) := by decide +kernel
theorem op168_114 : rn_op 168 114 = some (.getfield 19, 3, 11, 5, 3) := by decide +kernel
theorem op168_117 : rn_op 168 117 = some (.iload 4, 2, 0, 0, 0) := by decide +kernel
theorem op168_119 : rn_op 168 119 = some (.iaload, 1, 0, 0, 0) := by decide +kernel
theorem op168_120 : rn_op 168 120 = some (.ishl, 1, 0, 0, 0) := by decide +kernel
theorem op168_121 : rn_op 168 121 = some (.ior, 1, 0, 0, 0) := by decide +kernel
theorem op168_122 : rn_op 168 122 = some (.istore_n 3, 1, 0, 0, 0) := by decide +kernel
theorem op168_123 : rn_op 168 123 = some (.iinc 4 1, 3, 0, 0, 0) := by decide +kernel
theorem op168_126 : rn_op 168 126 = some (.goto (-73), 3, 0, 0, 0) := by decide +kernel
theorem op168_129 : rn_op 168 129 = some (.iload_n 2, 1, 0, 0, 0) := by decide +kernel
theorem op168_130 : rn_op 168 130 = some (.aload_n 0, 1, 0, 0, 0) := by decide +kernel
theorem op168_131 : rn_op 168 131 = some (.aload_n 0, 1, 0, 0, 0) := by decide +kernel
theorem op168_132 : rn_op 168 132 = some (.getfield 19, 3, 11, 5, 3) := by decide +kernel
theorem op168_135 : rn_op 168 135 = some (.iconst 0, 1, 0, 0, 0) := by decide +kernel
theorem op168_136 : rn_op 168 136 = some (.aload_n 0, 1, 0, 0, 0) := by decide +kernel
theorem op168_137 : rn_op 168 137 = some (.getfield 7, 3, 11, 0, 3) := by decide +kernel
theorem op168_140 : rn_op 168 140 = some (.iconst 1, 1, 0, 0, 0) := by decide +kernel
theorem op168_141 : rn_op 168 141 = some (.iaload, 1, 0, 0, 0) := by decide +kernel
theorem op168_142 : rn_op 168 142 = some (.aload_n 0, 1, 0, 0, 0) := by decide +kernel
theorem op168_143 : rn_op 168 143 = some (.getfield 7, 3, 11, 0, 3) := by decide +kernel
theorem op168_146 : rn_op 168 146 = some (.iconst 4, 1, 0, 0, 0) := by decide +kernel
theorem op168_147 : rn_op 168 147 = some (.iaload, 1, 0, 0, 0) := by decide +kernel
theorem op168_148 : rn_op 168 148 = some (.invokevirtual 193, 3, 161, 5, 11) := by decide +kernel
theorem op168_151 : rn_op 168 151 = some (.iadd, 1, 0, 0, 0) := by decide +kernel
theorem op168_152 : rn_op 168 152 = some (.aload_n 0, 1, 0, 0, 0) := by decide +kernel
theorem op168_153 : rn_op 168 153 = some (.getfield 7, 3, 11, 0, 3) := by decide +kernel
theorem op168_156 : rn_op 168 156 = some (.iconst 1, 1, 0, 0, 0) := by decide +kernel
theorem op168_157 : rn_op 168 157 = some (.iaload, 1, 0, 0, 0) := by decide +kernel
theorem op168_158 : rn_op 168 158 = some (.irem, 1, 0, 0, 0) := by decide +kernel
theorem op168_159 : rn_op 168 159 = some (.ireturn, 1, 0, 0, 0) := by decide +kernel
def mo_wins_l53 (a1 : Int32) (a2 : Int32) : Nat → Int32 → Int32 → rn_Mem → Option ((Int32 × rn_Mem) ⊕ (rn_Mem))
  | 0, _, _, _ => none
  | n + 1, a3, a4, m =>
    if a4 < (m.1 116 1) then
      if rn_in a4 4 = true then
        (some (rm_i m 119 a4.toNatClampNeg ((a1 >>> (((4 : Int32) * a4) &&& 31)) &&& 15))).bind fun (m15 : rn_Mem) =>
        if rn_in a4 4 = true then
          (mo_isInPack n (m15.1 119 a4.toNatClampNeg) m15).bind fun (r19, m18) =>
          if r19 = 0 then
            some (.inl ((-1), m18))
          else
            if rn_in a4 4 = true then
              if ((a3 >>> ((m18.1 119 a4.toNatClampNeg) &&& 31)) &&& 1) = 1 then
                some (.inl ((-1), m18))
              else
                if rn_in a4 4 = true then
                  (some (a3 ||| ((1 : Int32) <<< ((m18.1 119 a4.toNatClampNeg) &&& 31)))).bind fun (x25 : Int32) =>
                  (some (a4 + 1)).bind fun (x26 : Int32) =>
                  mo_wins_l53 a1 a2 n x25 x26 m18
                else none
            else none
        else none
      else none
    else
      some (.inr m)
def mo_wins (n : Nat) (a1 : Int32) (a2 : Int32) (m : rn_Mem) : Option (Int32 × rn_Mem) :=
  (mo_in n (a1.toInt64) 0 65535 m).bind fun (r2, m1) =>
  if r2 = 0 then
    some ((-1), m1)
  else
    (mo_in n (a2.toInt64) 0 3 m1).bind fun (r6, m5) =>
    if r6 = 0 then
      some ((-1), m5)
    else
      if (m5.1 116 0) = 0 then
        some ((-2), m5)
      else
        (mo_isChair n a2 m5).bind fun (r11, m10) =>
        if r11 = 0 then
          some ((-1), m10)
        else
          (mo_wins_l53 a1 a2 n 0 0 m10).bind fun q => match q with
          | .inl o => some o
          | .inr m27 =>
          (mo_winning n 119 0 (m27.1 116 1) (m27.1 116 4) m27).bind fun (r32, m31) =>
          if ¬ (m31.1 116 1) = 0 then
            some (rn_rem (a2 + r32) (m31.1 116 1), m31)
          else none
set_option maxHeartbeats 4000000 in
set_option maxRecDepth 20000 in
theorem mo_wins_l53_ok (xs : List Int32) {d : Nat} (hd : 2 ≤ d + 1) {a1 : Int32} {a2 : Int32} {r : Option Value} {τ : rn_H} {out : (Int32 × rn_Mem) ⊕ (rn_Mem)} (hl : ∀ (rO : Int32) (mO : rn_Mem), out = .inl (rO, mO) → r = (some (.int rO)) ∧ τ = (rn_SH, mO)) (hr : ∀ (mO : rn_Mem), out = .inr mO → ∀ (o1 o3 o4 : Option Value), rn_R xs (d + 1) 168 129 [some (.ref 115), o1, some (.int a2), o3, o4] [] (rn_SH, mO) r τ) : ∀ (n : Nat) (a3 : Int32) (a4 : Int32) (m : rn_Mem), mo_wins_l53 a1 a2 n a3 a4 m = some out → rn_R xs (d + 1) 168 53 [some (.ref 115), some (.int a1), some (.int a2), some (.int a3), some (.int a4)] [] (rn_SH, m) r τ := by
  intro n
  induction n with
  | zero =>
    intro _ _ _ h
    cases h
  | succ n ih =>
    intro a3 a4 m h
    unfold mo_wins_l53 at h
    try dsimp only at h
    refine rx_p (L2 := [some (.ref 115), some (.int a1), some (.int a2), some (.int a3), some (.int a4)]) (S2 := [.int a4]) (pc2 := 55) op168_53 rfl rfl ?_
    refine rx_p (L2 := [some (.ref 115), some (.int a1), some (.int a2), some (.int a3), some (.int a4)]) (S2 := [.ref 115, .int a4]) (pc2 := 56) op168_55 rfl rfl ?_
    refine rx_gf (v := .ref 116) (pc2 := 59) op168_56 sp_115 rfl rfl rfl ?_
    refine rx_ic (v := 1) (pc2 := 60) op168_59 (by decide) rfl ?_
    refine rx_ia (j := 1) (pc2 := 61) op168_60 (rn_shlt sp_116) sp_116 (by decide) (by decide) rfl ?_
    refine ry_ic_ge (tgt := 129) (pc2 := 64) op168_61 (by decide) (by decide) rfl (fun b14 => ?_) (fun b14 => ?_)
    · have h := (if_pos b14).symm.trans h
      refine rx_p (L2 := [some (.ref 115), some (.int a1), some (.int a2), some (.int a3), some (.int a4)]) (S2 := [.ref 115]) (pc2 := 65) op168_64 rfl rfl ?_
      refine rx_gf (v := .ref 119) (pc2 := 68) op168_65 sp_115 rfl rfl rfl ?_
      refine rx_p (L2 := [some (.ref 115), some (.int a1), some (.int a2), some (.int a3), some (.int a4)]) (S2 := [.int a4, .ref 119]) (pc2 := 70) op168_68 rfl rfl ?_
      refine rx_p (L2 := [some (.ref 115), some (.int a1), some (.int a2), some (.int a3), some (.int a4)]) (S2 := [.int a1, .int a4, .ref 119]) (pc2 := 71) op168_70 rfl rfl ?_
      refine rx_ic (v := 4) (pc2 := 72) op168_71 (by decide) rfl ?_
      refine rx_p (L2 := [some (.ref 115), some (.int a1), some (.int a2), some (.int a3), some (.int a4)]) (S2 := [.int a4, .int 4, .int a1, .int a4, .ref 119]) (pc2 := 74) op168_72 rfl rfl ?_
      refine rx_p (L2 := [some (.ref 115), some (.int a1), some (.int a2), some (.int a3), some (.int a4)]) (S2 := [.int ((4 : Int32) * a4), .int a1, .int a4, .ref 119]) (pc2 := 75) op168_74 rfl rfl ?_
      refine rx_p (L2 := [some (.ref 115), some (.int a1), some (.int a2), some (.int a3), some (.int a4)]) (S2 := [.int (a1 >>> (((4 : Int32) * a4) &&& 31)), .int a4, .ref 119]) (pc2 := 76) op168_75 rfl rfl ?_
      refine rx_bp (v := 15) (pc2 := 78) op168_76 (by decide) rfl ?_
      refine rx_p (L2 := [some (.ref 115), some (.int a1), some (.int a2), some (.int a3), some (.int a4)]) (S2 := [.int ((a1 >>> (((4 : Int32) * a4) &&& 31)) &&& 15), .int a4, .ref 119]) (pc2 := 79) op168_78 rfl rfl ?_
      obtain ⟨k16, h⟩ := rq_chk h
      obtain ⟨m15, em15, h⟩ := rq_bv h
      refine rx_is (m2 := m15) (pc2 := 80) op168_79 sp_119 k16 rfl em15 rfl ?_
      refine rx_p (L2 := [some (.ref 115), some (.int a1), some (.int a2), some (.int a3), some (.int a4)]) (S2 := [.ref 115]) (pc2 := 81) op168_80 rfl rfl ?_
      refine rx_p (L2 := [some (.ref 115), some (.int a1), some (.int a2), some (.int a3), some (.int a4)]) (S2 := [.ref 115, .ref 115]) (pc2 := 82) op168_81 rfl rfl ?_
      refine rx_gf (v := .ref 119) (pc2 := 85) op168_82 sp_115 rfl rfl rfl ?_
      refine rx_p (L2 := [some (.ref 115), some (.int a1), some (.int a2), some (.int a3), some (.int a4)]) (S2 := [.int a4, .ref 119, .ref 115]) (pc2 := 87) op168_85 rfl rfl ?_
      obtain ⟨k17, h⟩ := rq_chk h
      refine rx_ia (pc2 := 88) op168_87 (rn_shlt sp_119) sp_119 k17 rfl rfl ?_
      obtain ⟨⟨r19, m18⟩, f20, h⟩ := rq_bind h
      try dsimp only at h
      refine ry_iv (p := 115) (vs := [.int (m15.1 119 a4.toNatClampNeg)]) (T := []) (pc2 := 91) op168_88 ms_169 (by decide) rfl rfl (Nat.le_of_ble_eq_true rfl) (Nat.le_of_ble_eq_true rfl) sp_115 (mo_isInPack_ok xs (by omega)  f20) rfl ?_
      show rn_R _ _ _ _ _ [.int r19] _ _ _
      refine ry_if_eq (tgt := 109) (pc2 := 94) op168_91 (by decide) (by decide) rfl (fun b21 => ?_) (fun b21 => ?_)
      · have h := (if_pos b21).symm.trans h
        refine rx_ic (v := (-1)) (pc2 := 110) op168_109 (by decide) rfl ?_
        cases h
        obtain ⟨rfl, rfl⟩ := hl _ _ rfl
        exact ry_ri op168_110 ms_168 rfl
      · have h := (if_neg b21).symm.trans h
        refine rx_p (L2 := [some (.ref 115), some (.int a1), some (.int a2), some (.int a3), some (.int a4)]) (S2 := [.int a3]) (pc2 := 95) op168_94 rfl rfl ?_
        refine rx_p (L2 := [some (.ref 115), some (.int a1), some (.int a2), some (.int a3), some (.int a4)]) (S2 := [.ref 115, .int a3]) (pc2 := 96) op168_95 rfl rfl ?_
        refine rx_gf (v := .ref 119) (pc2 := 99) op168_96 sp_115 rfl rfl rfl ?_
        refine rx_p (L2 := [some (.ref 115), some (.int a1), some (.int a2), some (.int a3), some (.int a4)]) (S2 := [.int a4, .ref 119, .int a3]) (pc2 := 101) op168_99 rfl rfl ?_
        obtain ⟨k22, h⟩ := rq_chk h
        refine rx_ia (pc2 := 102) op168_101 (rn_shlt sp_119) sp_119 k22 rfl rfl ?_
        refine rx_p (L2 := [some (.ref 115), some (.int a1), some (.int a2), some (.int a3), some (.int a4)]) (S2 := [.int (a3 >>> ((m18.1 119 a4.toNatClampNeg) &&& 31))]) (pc2 := 103) op168_102 rfl rfl ?_
        refine rx_ic (v := 1) (pc2 := 104) op168_103 (by decide) rfl ?_
        refine rx_p (L2 := [some (.ref 115), some (.int a1), some (.int a2), some (.int a3), some (.int a4)]) (S2 := [.int ((a3 >>> ((m18.1 119 a4.toNatClampNeg) &&& 31)) &&& 1)]) (pc2 := 105) op168_104 rfl rfl ?_
        refine rx_ic (v := 1) (pc2 := 106) op168_105 (by decide) rfl ?_
        refine ry_ic_ne (tgt := 111) (pc2 := 109) op168_106 (by decide) (by decide) rfl (fun b23 => ?_) (fun b23 => ?_)
        · have h := (if_pos b23).symm.trans h
          refine rx_ic (v := (-1)) (pc2 := 110) op168_109 (by decide) rfl ?_
          cases h
          obtain ⟨rfl, rfl⟩ := hl _ _ rfl
          exact ry_ri op168_110 ms_168 rfl
        · have h := (if_neg b23).symm.trans h
          refine rx_p (L2 := [some (.ref 115), some (.int a1), some (.int a2), some (.int a3), some (.int a4)]) (S2 := [.int a3]) (pc2 := 112) op168_111 rfl rfl ?_
          refine rx_ic (v := 1) (pc2 := 113) op168_112 (by decide) rfl ?_
          refine rx_p (L2 := [some (.ref 115), some (.int a1), some (.int a2), some (.int a3), some (.int a4)]) (S2 := [.ref 115, .int 1, .int a3]) (pc2 := 114) op168_113 rfl rfl ?_
          refine rx_gf (v := .ref 119) (pc2 := 117) op168_114 sp_115 rfl rfl rfl ?_
          refine rx_p (L2 := [some (.ref 115), some (.int a1), some (.int a2), some (.int a3), some (.int a4)]) (S2 := [.int a4, .ref 119, .int 1, .int a3]) (pc2 := 119) op168_117 rfl rfl ?_
          obtain ⟨k24, h⟩ := rq_chk h
          refine rx_ia (pc2 := 120) op168_119 (rn_shlt sp_119) sp_119 k24 rfl rfl ?_
          refine rx_p (L2 := [some (.ref 115), some (.int a1), some (.int a2), some (.int a3), some (.int a4)]) (S2 := [.int ((1 : Int32) <<< ((m18.1 119 a4.toNatClampNeg) &&& 31)), .int a3]) (pc2 := 121) op168_120 rfl rfl ?_
          refine rx_p (L2 := [some (.ref 115), some (.int a1), some (.int a2), some (.int a3), some (.int a4)]) (S2 := [.int (a3 ||| ((1 : Int32) <<< ((m18.1 119 a4.toNatClampNeg) &&& 31)))]) (pc2 := 122) op168_121 rfl rfl ?_
          obtain ⟨x25, ex25, h⟩ := rq_bv h
          refine rx_s (v := x25) (L2 := [some (.ref 115), some (.int a1), some (.int a2), some (.int x25), some (.int a4)]) (pc2 := 123) op168_122 ex25 rfl rfl ?_
          obtain ⟨x26, ex26, h⟩ := rq_bv h
          refine rx_inc (w := 1) (v := x26) (L2 := [some (.ref 115), some (.int a1), some (.int a2), some (.int x25), some (.int x26)]) (pc2 := 126) op168_123 rfl (by decide) ex26 rfl rfl ?_
          refine ry_go (tgt := 53) op168_126 (by decide) (by decide) ?_
          exact ih _ _ _ h
    · have h := (if_neg b14).symm.trans h
      cases h
      exact hr _ rfl _ _ _
set_option maxHeartbeats 4000000 in
set_option maxRecDepth 20000 in
theorem mo_wins_ok (xs : List Int32) {d : Nat} (hd : 2 ≤ d) {n : Nat} {a1 : Int32} {a2 : Int32} {m mO : rn_Mem} {rO : Int32} (h : mo_wins n a1 a2 m = some (rO, mO)) : rn_R xs d 168 0 (rn_ent 5 [.ref 115, .int a1, .int a2]) [] (rn_SH, m) (some (.int rO)) (rn_SH, mO) := by
  obtain ⟨d, rfl⟩ : ∃ e, d = e + 1 := ⟨d - 1, by omega⟩
  unfold mo_wins at h
  show rn_R xs (d + 1) 168 0 [some (.ref 115), some (.int a1), some (.int a2), none, none] [] (rn_SH, m) (some (.int rO)) (rn_SH, mO)
  refine rx_p (L2 := [some (.ref 115), some (.int a1), some (.int a2), none, none]) (S2 := [.int a1]) (pc2 := 1) op168_0 rfl rfl ?_
  refine rx_p (L2 := [some (.ref 115), some (.int a1), some (.int a2), none, none]) (S2 := [.long (a1.toInt64)]) (pc2 := 2) op168_1 rfl rfl ?_
  refine rx_lc (v := 0) (pc2 := 3) op168_2 (by decide) rfl ?_
  refine rx_ld2 (v := 65535) (pc2 := 6) op168_3 (by decide) rfl ?_
  obtain ⟨⟨r2, m1⟩, f3, h⟩ := rq_bind h
  try dsimp only at h
  refine ry_is (vs := [.long (a1.toInt64), .long 0, .long 65535]) (T := []) (pc2 := 9) op168_6 (by decide) ms_147 (by decide) rfl rfl (Nat.le_of_ble_eq_true rfl) (Nat.le_of_ble_eq_true rfl) (mo_in_ok xs (by omega)  f3) rfl ?_
  show rn_R _ _ _ _ _ [.int r2] _ _ _
  refine ry_if_eq (tgt := 24) (pc2 := 12) op168_9 (by decide) (by decide) rfl (fun b4 => ?_) (fun b4 => ?_)
  · have h := (if_pos b4).symm.trans h
    refine rx_ic (v := (-1)) (pc2 := 25) op168_24 (by decide) rfl ?_
    obtain ⟨rfl, rfl⟩ := rq_ret h
    exact ry_ri op168_25 ms_168 rfl
  · have h := (if_neg b4).symm.trans h
    refine rx_p (L2 := [some (.ref 115), some (.int a1), some (.int a2), none, none]) (S2 := [.int a2]) (pc2 := 13) op168_12 rfl rfl ?_
    refine rx_p (L2 := [some (.ref 115), some (.int a1), some (.int a2), none, none]) (S2 := [.long (a2.toInt64)]) (pc2 := 14) op168_13 rfl rfl ?_
    refine rx_lc (v := 0) (pc2 := 15) op168_14 (by decide) rfl ?_
    refine rx_ld2 (v := 3) (pc2 := 18) op168_15 (by decide) rfl ?_
    obtain ⟨⟨r6, m5⟩, f7, h⟩ := rq_bind h
    try dsimp only at h
    refine ry_is (vs := [.long (a2.toInt64), .long 0, .long 3]) (T := []) (pc2 := 21) op168_18 (by decide) ms_147 (by decide) rfl rfl (Nat.le_of_ble_eq_true rfl) (Nat.le_of_ble_eq_true rfl) (mo_in_ok xs (by omega)  f7) rfl ?_
    show rn_R _ _ _ _ _ [.int r6] _ _ _
    refine ry_if_ne (tgt := 26) (pc2 := 24) op168_21 (by decide) (by decide) rfl (fun b8 => ?_) (fun b8 => ?_)
    · have h := (if_pos b8).symm.trans h
      refine rx_ic (v := (-1)) (pc2 := 25) op168_24 (by decide) rfl ?_
      obtain ⟨rfl, rfl⟩ := rq_ret h
      exact ry_ri op168_25 ms_168 rfl
    · have h := (if_neg b8).symm.trans h
      refine rx_p (L2 := [some (.ref 115), some (.int a1), some (.int a2), none, none]) (S2 := [.ref 115]) (pc2 := 27) op168_26 rfl rfl ?_
      refine rx_gf (v := .ref 116) (pc2 := 30) op168_27 sp_115 rfl rfl rfl ?_
      refine rx_ic (v := 0) (pc2 := 31) op168_30 (by decide) rfl ?_
      refine rx_ia (j := 0) (pc2 := 32) op168_31 (rn_shlt sp_116) sp_116 (by decide) (by decide) rfl ?_
      refine ry_if_ne (tgt := 38) (pc2 := 35) op168_32 (by decide) (by decide) rfl (fun b9 => ?_) (fun b9 => ?_)
      · have h := (if_pos b9).symm.trans h
        refine rx_bp (v := (-2)) (pc2 := 37) op168_35 (by decide) rfl ?_
        obtain ⟨rfl, rfl⟩ := rq_ret h
        exact ry_ri op168_37 ms_168 rfl
      · have h := (if_neg b9).symm.trans h
        refine rx_p (L2 := [some (.ref 115), some (.int a1), some (.int a2), none, none]) (S2 := [.ref 115]) (pc2 := 39) op168_38 rfl rfl ?_
        refine rx_p (L2 := [some (.ref 115), some (.int a1), some (.int a2), none, none]) (S2 := [.int a2, .ref 115]) (pc2 := 40) op168_39 rfl rfl ?_
        obtain ⟨⟨r11, m10⟩, f12, h⟩ := rq_bind h
        try dsimp only at h
        refine ry_iv (p := 115) (vs := [.int a2]) (T := []) (pc2 := 43) op168_40 ms_167 (by decide) rfl rfl (Nat.le_of_ble_eq_true rfl) (Nat.le_of_ble_eq_true rfl) sp_115 (mo_isChair_ok xs (by omega)  f12) rfl ?_
        show rn_R _ _ _ _ _ [.int r11] _ _ _
        refine ry_if_ne (tgt := 48) (pc2 := 46) op168_43 (by decide) (by decide) rfl (fun b13 => ?_) (fun b13 => ?_)
        · have h := (if_pos b13).symm.trans h
          refine rx_ic (v := (-1)) (pc2 := 47) op168_46 (by decide) rfl ?_
          obtain ⟨rfl, rfl⟩ := rq_ret h
          exact ry_ri op168_47 ms_168 rfl
        · have h := (if_neg b13).symm.trans h
          refine rx_ic (v := 0) (pc2 := 49) op168_48 (by decide) rfl ?_
          refine rx_s (L2 := [some (.ref 115), some (.int a1), some (.int a2), some (.int 0), none]) (pc2 := 50) op168_49 rfl rfl rfl ?_
          refine rx_ic (v := 0) (pc2 := 51) op168_50 (by decide) rfl ?_
          refine rx_s (L2 := [some (.ref 115), some (.int a1), some (.int a2), some (.int 0), some (.int 0)]) (pc2 := 53) op168_51 rfl rfl rfl ?_
          obtain ⟨wf35, f35, h⟩ := rq_bind h
          refine mo_wins_l53_ok xs hd (fun v0 m0 eq => ?_) (fun m27 eq => ?_) _ _ _ _  f35
          · subst eq
            try dsimp only at h
            cases h
            exact ⟨rfl, rfl⟩
          · subst eq
            try dsimp only at h
            intro o28 o29 o30
            refine rx_p (L2 := [some (.ref 115), o28, some (.int a2), o29, o30]) (S2 := [.int a2]) (pc2 := 130) op168_129 rfl rfl ?_
            refine rx_p (L2 := [some (.ref 115), o28, some (.int a2), o29, o30]) (S2 := [.ref 115, .int a2]) (pc2 := 131) op168_130 rfl rfl ?_
            refine rx_p (L2 := [some (.ref 115), o28, some (.int a2), o29, o30]) (S2 := [.ref 115, .ref 115, .int a2]) (pc2 := 132) op168_131 rfl rfl ?_
            refine rx_gf (v := .ref 119) (pc2 := 135) op168_132 sp_115 rfl rfl rfl ?_
            refine rx_ic (v := 0) (pc2 := 136) op168_135 (by decide) rfl ?_
            refine rx_p (L2 := [some (.ref 115), o28, some (.int a2), o29, o30]) (S2 := [.ref 115, .int 0, .ref 119, .ref 115, .int a2]) (pc2 := 137) op168_136 rfl rfl ?_
            refine rx_gf (v := .ref 116) (pc2 := 140) op168_137 sp_115 rfl rfl rfl ?_
            refine rx_ic (v := 1) (pc2 := 141) op168_140 (by decide) rfl ?_
            refine rx_ia (j := 1) (pc2 := 142) op168_141 (rn_shlt sp_116) sp_116 (by decide) (by decide) rfl ?_
            refine rx_p (L2 := [some (.ref 115), o28, some (.int a2), o29, o30]) (S2 := [.ref 115, .int (m27.1 116 1), .int 0, .ref 119, .ref 115, .int a2]) (pc2 := 143) op168_142 rfl rfl ?_
            refine rx_gf (v := .ref 116) (pc2 := 146) op168_143 sp_115 rfl rfl rfl ?_
            refine rx_ic (v := 4) (pc2 := 147) op168_146 (by decide) rfl ?_
            refine rx_ia (j := 4) (pc2 := 148) op168_147 (rn_shlt sp_116) sp_116 (by decide) (by decide) rfl ?_
            obtain ⟨⟨r32, m31⟩, f33, h⟩ := rq_bind h
            try dsimp only at h
            refine ry_iv (p := 115) (vs := [.ref 119, .int 0, .int (m27.1 116 1), .int (m27.1 116 4)]) (T := [.int a2]) (pc2 := 151) op168_148 ms_161 (by decide) rfl rfl (Nat.le_of_ble_eq_true rfl) (Nat.le_of_ble_eq_true rfl) sp_115 (mo_winning_ok xs (by omega) sr_119 f33) rfl ?_
            show rn_R _ _ _ _ _ [.int r32, .int a2] _ _ _
            refine rx_p (L2 := [some (.ref 115), o28, some (.int a2), o29, o30]) (S2 := [.int (a2 + r32)]) (pc2 := 152) op168_151 rfl rfl ?_
            refine rx_p (L2 := [some (.ref 115), o28, some (.int a2), o29, o30]) (S2 := [.ref 115, .int (a2 + r32)]) (pc2 := 153) op168_152 rfl rfl ?_
            refine rx_gf (v := .ref 116) (pc2 := 156) op168_153 sp_115 rfl rfl rfl ?_
            refine rx_ic (v := 1) (pc2 := 157) op168_156 (by decide) rfl ?_
            refine rx_ia (j := 1) (pc2 := 158) op168_157 (rn_shlt sp_116) sp_116 (by decide) (by decide) rfl ?_
            obtain ⟨k34, h⟩ := rq_chk h
            refine rx_rem (v := rn_rem (a2 + r32) (m31.1 116 1)) (pc2 := 159) op168_158 k34 rfl rfl ?_
            obtain ⟨rfl, rfl⟩ := rq_ret h
            exact ry_ri op168_159 ms_168 rfl
/-! mo_clue -/
theorem op170_0 : rn_op 170 0 = some (.iload_n 1, 1, 0, 0, 0) := by decide +kernel
theorem op170_1 : rn_op 170 1 = some (.ifCond .ne 35, 3, 0, 0, 0) := by decide +kernel
theorem op170_4 : rn_op 170 4 = some (.iload_n 2, 1, 0, 0, 0) := by decide +kernel
theorem op170_5 : rn_op 170 5 = some (.i2l, 1, 0, 0, 0) := by decide +kernel
theorem op170_6 : rn_op 170 6 = some (.lconst 0, 1, 0, 0, 0) := by decide +kernel
theorem op170_7 : rn_op 170 7 = some (.ldc2_w 153, 3, 3, 0, 0) := by decide +kernel
theorem op170_10 : rn_op 170 10 = some (.invokestatic 121, 3, 147, 3, 0) := by decide +kernel
theorem op170_13 : rn_op 170 13 = some (.ifCond .eq 19, 3, 0, 0, 0) := by decide +kernel
theorem op170_16 : rn_op 170 16 = some (.iload_n 3, 1, 0, 0, 0) := by decide +kernel
theorem op170_17 : rn_op 170 17 = some (.i2l, 1, 0, 0, 0) := by decide +kernel
theorem op170_18 : rn_op 170 18 = some (.lconst 0, 1, 0, 0, 0) := by decide +kernel
theorem op170_19 : rn_op 170 19 = some (.ldc2_w 125, 3, 15, 0, 0) := by decide +kernel
theorem op170_22 : rn_op 170 22 = some (.invokestatic 121, 3, 147, 3, 0) := by decide +kernel
theorem op170_25 : rn_op 170 25 = some (.ifCond .eq 7, 3, 0, 0, 0) := by decide +kernel
theorem op170_28 : rn_op 170 28 = some (.iconst 1, 1, 0, 0, 0) := by decide +kernel
theorem op170_29 : rn_op 170 29 = some (.goto 120, 3, 0, 0, 0) := by decide +kernel
theorem op170_32 : rn_op 170 32 = some (.iconst 0, 1, 0, 0, 0) := by decide +kernel
theorem op170_33 : rn_op 170 33 = some (.goto 116, 3, 0, 0, 0) := by decide +kernel
theorem op170_36 : rn_op 170 36 = some (.iload_n 1, 1, 0, 0, 0) := by decide +kernel
theorem op170_37 : rn_op 170 37 = some (.iconst 1, 1, 0, 0, 0) := by decide +kernel
theorem op170_38 : rn_op 170 38 = some (.if_icmp .ne 35, 3, 0, 0, 0) := by decide +kernel
theorem op170_41 : rn_op 170 41 = some (.iload_n 2, 1, 0, 0, 0) := by decide +kernel
theorem op170_42 : rn_op 170 42 = some (.i2l, 1, 0, 0, 0) := by decide +kernel
theorem op170_43 : rn_op 170 43 = some (.lconst 0, 1, 0, 0, 0) := by decide +kernel
theorem op170_44 : rn_op 170 44 = some (.ldc2_w 153, 3, 3, 0, 0) := by decide +kernel
theorem op170_47 : rn_op 170 47 = some (.invokestatic 121, 3, 147, 3, 0) := by decide +kernel
theorem op170_50 : rn_op 170 50 = some (.ifCond .eq 19, 3, 0, 0, 0) := by decide +kernel
theorem op170_53 : rn_op 170 53 = some (.iload_n 3, 1, 0, 0, 0) := by decide +kernel
theorem op170_54 : rn_op 170 54 = some (.i2l, 1, 0, 0, 0) := by decide +kernel
theorem op170_55 : rn_op 170 55 = some (.lconst 0, 1, 0, 0, 0) := by decide +kernel
theorem op170_56 : rn_op 170 56 = some (.ldc2_w 153, 3, 3, 0, 0) := by decide +kernel
theorem op170_59 : rn_op 170 59 = some (.invokestatic 121, 3, 147, 3, 0) := by decide +kernel
theorem op170_62 : rn_op 170 62 = some (.ifCond .eq 7, 3, 0, 0, 0) := by decide +kernel
theorem op170_65 : rn_op 170 65 = some (.iconst 1, 1, 0, 0, 0) := by decide +kernel
theorem op170_66 : rn_op 170 66 = some (.goto 83, 3, 0, 0, 0) := by decide +kernel
theorem op170_69 : rn_op 170 69 = some (.iconst 0, 1, 0, 0, 0) := by decide +kernel
theorem op170_70 : rn_op 170 70 = some (.goto 79, 3, 0, 0, 0) := by decide +kernel
theorem op170_73 : rn_op 170 73 = some (.iload_n 1, 1, 0, 0, 0) := by decide +kernel
theorem op170_74 : rn_op 170 74 = some (.iconst 2, 1, 0, 0, 0) := by decide +kernel
theorem op170_75 : rn_op 170 75 = some (.if_icmp .ne 40, 3, 0, 0, 0) := by decide +kernel
theorem op170_78 : rn_op 170 78 = some (.iload_n 2, 1, 0, 0, 0) := by decide +kernel
theorem op170_79 : rn_op 170 79 = some (.i2l, 1, 0, 0, 0) := by decide +kernel
theorem op170_80 : rn_op 170 80 = some (.lconst 0, 1, 0, 0, 0) := by decide +kernel
theorem op170_81 : rn_op 170 81 = some (.ldc2_w 125, 3, 15, 0, 0) := by decide +kernel
theorem op170_84 : rn_op 170 84 = some (.invokestatic 121, 3, 147, 3, 0) := by decide +kernel
theorem op170_87 : rn_op 170 87 = some (.ifCond .eq 24, 3, 0, 0, 0) := by decide +kernel
theorem op170_90 : rn_op 170 90 = some (.iload_n 3, 1, 0, 0, 0) := by decide +kernel
theorem op170_91 : rn_op 170 91 = some (.i2l, 1, 0, 0, 0) := by decide +kernel
theorem op170_92 : rn_op 170 92 = some (.lconst 0, 1, 0, 0, 0) := by decide +kernel
theorem op170_93 : rn_op 170 93 = some (.ldc2_w 125, 3, 15, 0, 0) := by decide +kernel
theorem op170_96 : rn_op 170 96 = some (.invokestatic 121, 3, 147, 3, 0) := by decide +kernel
theorem op170_99 : rn_op 170 99 = some (.ifCond .eq 12, 3, 0, 0, 0) := by decide +kernel
theorem op170_102 : rn_op 170 102 = some (.iload_n 2, 1, 0, 0, 0) := by decide +kernel
theorem op170_103 : rn_op 170 103 = some (.iload_n 3, 1, 0, 0, 0) := by decide +kernel
theorem op170_104 : rn_op 170 104 = some (.if_icmp .eq 7, 3, 0, 0, 0) := by decide +kernel
theorem op170_107 : rn_op 170 107 = some (.iconst 1, 1, 0, 0, 0) := by decide +kernel
theorem op170_108 : rn_op 170 108 = some (.goto 41, 3, 0, 0, 0) := by decide +kernel
theorem op170_111 : rn_op 170 111 = some (.iconst 0, 1, 0, 0, 0) := by decide +kernel
theorem op170_112 : rn_op 170 112 = some (.goto 37, 3, 0, 0, 0) := by decide +kernel
theorem op170_115 : rn_op 170 115 = some (.iload_n 1, 1, 0, 0, 0) := by decide +kernel
theorem op170_116 : rn_op 170 116 = some (.iconst 3, 1, 0, 0, 0) := by decide +kernel
theorem op170_117 : rn_op 170 117 = some (.if_icmp .ne 31, 3, 0, 0, 0) := by decide +kernel
theorem op170_120 : rn_op 170 120 = some (.iload_n 2, 1, 0, 0, 0) := by decide +kernel
theorem op170_121 : rn_op 170 121 = some (.i2l, 1, 0, 0, 0) := by decide +kernel
theorem op170_122 : rn_op 170 122 = some (.lconst 0, 1, 0, 0, 0) := by decide +kernel
theorem op170_123 : rn_op 170 123 = some (.ldc2_w 153, 3, 3, 0, 0) := by decide +kernel
theorem op170_126 : rn_op 170 126 = some (.invokestatic 121, 3, 147, 3, 0) := by decide +kernel
theorem op170_129 : rn_op 170 129 = some (.ifCond .eq 19, 3, 0, 0, 0) := by decide +kernel
theorem op170_132 : rn_op 170 132 = some (.iload_n 3, 1, 0, 0, 0) := by decide +kernel
theorem op170_133 : rn_op 170 133 = some (.i2l, 1, 0, 0, 0) := by decide +kernel
theorem op170_134 : rn_op 170 134 = some (.lconst 0, 1, 0, 0, 0) := by decide +kernel
theorem op170_135 : rn_op 170 135 = some (.ldc2_w 153, 3, 3, 0, 0) := by decide +kernel
theorem op170_138 : rn_op 170 138 = some (.invokestatic 121, 3, 147, 3, 0) := by decide +kernel
theorem op170_141 : rn_op 170 141 = some (.ifCond .eq 7, 3, 0, 0, 0) := by decide +kernel
theorem op170_144 : rn_op 170 144 = some (.iconst 1, 1, 0, 0, 0) := by decide +kernel
theorem op170_145 : rn_op 170 145 = some (.goto 4, 3, 0, 0, 0) := by decide +kernel
theorem op170_148 : rn_op 170 148 = some (.iconst 0, 1, 0, 0, 0) := by decide +kernel
theorem op170_149 : rn_op 170 149 = some (.istore 5, 2, 0, 0, 0) := by decide +kernel
theorem op170_151 : rn_op 170 151 = some (.iload 5, 2, 0, 0, 0) := by decide +kernel
theorem op170_153 : rn_op 170 153 = some (.ifCond .eq 25, 3, 0, 0, 0) := by decide +kernel
theorem op170_156 : rn_op 170 156 = some (.iload 4, 2, 0, 0, 0) := by decide +kernel
theorem op170_158 : rn_op 170 158 = some (.i2l, 1, 0, 0, 0) := by decide +kernel
theorem op170_159 : rn_op 170 159 = some (.lconst 0, 1, 0, 0, 0) := by decide +kernel
theorem op170_160 : rn_op 170 160 = some (.iload_n 1, 1, 0, 0, 0) := by decide +kernel
theorem op170_161 : rn_op 170 161 = some (.iconst 3, 1, 0, 0, 0) := by decide +kernel
theorem op170_162 : rn_op 170 162 = some (.if_icmp .ne 9, 3, 0, 0, 0) := by decide +kernel
theorem op170_165 : rn_op 170 165 = some (.ldc2_w 153, 3, 3, 0, 0) := by decide +kernel
theorem op170_168 : rn_op 170 168 = some (.goto 4, 3, 0, 0, 0) := by decide +kernel
theorem op170_171 : rn_op 170 171 = some (.lconst 0, 1, 0, 0, 0) := by decide +kernel
theorem op170_172 : rn_op 170 172 = some (.invokestatic 121, 3, 147, 3, 0) := by decide +kernel
theorem op170_175 : rn_op 170 175 = some (.ifCond .ne 5, 3, 0, 0, 0) := by decide +kernel
theorem op170_178 : rn_op 170 178 = some (.iconst (-1), 1, 0, 0, 0) := by decide +kernel
theorem op170_179 : rn_op 170 179 = some (.ireturn, 1, 0, 0, 0) := by decide +kernel
theorem op170_180 : rn_op 170 180 = some (.aload_n 0, 1, 0, 0, 0) := by decide +kernel
theorem op170_181 : rn_op 170 181 = some (.getfield 7, 3, 11, 0, 3) := by decide +kernel
theorem op170_184 : rn_op 170 184 = some (.iconst 0, 1, 0, 0, 0) := by decide +kernel
theorem op170_185 : rn_op 170 185 = some (.iaload, 1, 0, 0, 0) := by decide +kernel
theorem op170_186 : rn_op 170 186 = some (.ifCond .ne 6, 3, 0, 0, 0) := by decide +kernel
theorem op170_189 : rn_op 170 189 = some (.bipush (-2), 2, 0, 0, 0) := by decide +kernel
theorem op170_191 : rn_op 170 191 = some (.ireturn, 1, 0, 0, 0) := by decide +kernel
theorem op170_192 : rn_op 170 192 = some (.iload_n 1, 1, 0, 0, 0) := by decide +kernel
theorem op170_193 : rn_op 170 193 = some (.iconst 2, 1, 0, 0, 0) := by decide +kernel
theorem op170_194 : rn_op 170 194 = some (.if_icmp .ne 27, 3, 0, 0, 0) := by decide +kernel
theorem op170_197 : rn_op 170 197 = some (.aload_n 0, 1, 0, 0, 0) := by decide +kernel
theorem op170_198 : rn_op 170 198 = some (.iload_n 2, 1, 0, 0, 0) := by decide +kernel
theorem op170_199 : rn_op 170 199 = some (.invokevirtual 190, 3, 169, 2, 11) := by decide +kernel
theorem op170_202 : rn_op 170 202 = some (.ifCond .eq 15, 3, 0, 0, 0) := by decide +kernel
theorem op170_205 : rn_op 170 205 = some (.aload_n 0, 1, 0, 0, 0) := by decide +kernel
theorem op170_206 : rn_op 170 206 = some (.iload_n 3, 1, 0, 0, 0) := by decide +kernel
theorem op170_207 : rn_op 170 207 = some (.invokevirtual 190, 3, 169, 2, 11) := by decide +kernel
theorem op170_210 : rn_op 170 210 = some (.ifCond .eq 7, 3, 0, 0, 0) := by decide +kernel
theorem op170_213 : rn_op 170 213 = some (.iconst 1, 1, 0, 0, 0) := by decide +kernel
theorem op170_214 : rn_op 170 214 = some (.goto 64, 3, 0, 0, 0) := by decide +kernel
theorem op170_217 : rn_op 170 217 = some (.iconst 0, 1, 0, 0, 0) := by decide +kernel
theorem op170_218 : rn_op 170 218 = some (.goto 60, 3, 0, 0, 0) := by decide +kernel
theorem op170_221 : rn_op 170 221 = some (.aload_n 0, 1, 0, 0, 0) := by decide +kernel
theorem op170_222 : rn_op 170 222 = some (.iload_n 2, 1, 0, 0, 0) := by decide +kernel
theorem op170_223 : rn_op 170 223 = some (.invokevirtual 182, 3, 167, 2, 11) := by decide +kernel
theorem op170_226 : rn_op 170 226 = some (.ifCond .eq 51, 3, 0, 0, 0) := by decide +kernel
theorem op170_229 : rn_op 170 229 = some (.iload_n 1, 1, 0, 0, 0) := by decide +kernel
theorem op170_230 : rn_op 170 230 = some (.ifCond .ne 14, 3, 0, 0, 0) := by decide +kernel
theorem op170_233 : rn_op 170 233 = some (.aload_n 0, 1, 0, 0, 0) := by decide +kernel
theorem op170_234 : rn_op 170 234 = some (.iload_n 3, 1, 0, 0, 0) := by decide +kernel
theorem op170_235 : rn_op 170 235 = some (.invokevirtual 190, 3, 169, 2, 11) := by decide +kernel
theorem op170_238 : rn_op 170 238 = some (.ifCond .eq 39, 3, 0, 0, 0) := by decide +kernel
theorem op170_241 : rn_op 170 241 = some (.goto 32, 3, 0, 0, 0) := by decide +kernel
theorem op170_244 : rn_op 170 244 = some (.iload_n 1, 1, 0, 0, 0) := by decide +kernel
theorem op170_245 : rn_op 170 245 = some (.iconst 1, 1, 0, 0, 0) := by decide +kernel
theorem op170_246 : rn_op 170 246 = some (.if_icmp .ne 16, 3, 0, 0, 0) := by decide +kernel
theorem op170_249 : rn_op 170 249 = some (.iload_n 3, 1, 0, 0, 0) := by decide +kernel
theorem op170_250 : rn_op 170 250 = some (.aload_n 0, 1, 0, 0, 0) := by decide +kernel
theorem op170_251 : rn_op 170 251 = some (.getfield 7, 3, 11, 0, 3) := by decide +kernel
theorem op170_254 : rn_op 170 254 = some (.iconst 2, 1, 0, 0, 0) := by decide +kernel
theorem op170_255 : rn_op 170 255 = some (.iaload, 1, 0, 0, 0) := by decide +kernel
theorem op170_256 : rn_op 170 256 = some (.if_icmp .ge 21, 3, 0, 0, 0) := by decide +kernel
theorem op170_259 : rn_op 170 259 = some (.goto 14, 3, 0, 0, 0) := by decide +kernel
theorem op170_262 : rn_op 170 262 = some (.iload 4, 2, 0, 0, 0) := by decide +kernel
theorem op170_264 : rn_op 170 264 = some (.aload_n 0, 1, 0, 0, 0) := by decide +kernel
theorem op170_265 : rn_op 170 265 = some (.getfield 7, 3, 11, 0, 3) := by decide +kernel
theorem op170_268 : rn_op 170 268 = some (.iconst 2, 1, 0, 0, 0) := by decide +kernel
theorem op170_269 : rn_op 170 269 = some (.iaload, 1, 0, 0, 0) := by decide +kernel
theorem op170_270 : rn_op 170 270 = some (.if_icmp .ge 7, 3, 0, 0, 0) := by decide +kernel
theorem op170_273 : rn_op 170 273 = some (.iconst 1, 1, 0, 0, 0) := by decide +kernel
theorem op170_274 : rn_op 170 274 = some (.goto 4, 3, 0, 0, 0) := by decide +kernel
theorem op170_277 : rn_op 170 277 = some (.iconst 0, 1, 0, 0, 0) := by decide +kernel
theorem op170_278 : rn_op 170 278 = some (.istore 6, 2, 0, 0, 0) := by decide +kernel
theorem op170_280 : rn_op 170 280 = some (.iload 6, 2, 0, 0, 0) := by decide +kernel
theorem op170_282 : rn_op 170 282 = some (.ifCond .ne 5, 3, 0, 0, 0) := by decide +kernel
theorem op170_285 : rn_op 170 285 = some (.iconst (-1), 1, 0, 0, 0) := by decide +kernel
theorem op170_286 : rn_op 170 286 = some (.ireturn, 1, 0, 0, 0) := by decide +kernel
theorem op170_287 : rn_op 170 287 = some (.aload_n 0, 1, 0, 0, 0) := by decide +kernel
theorem op170_288 : rn_op 170 288 = some (.getfield 7, 3, 11, 0, 3) := by decide +kernel
theorem op170_291 : rn_op 170 291 = some (.bipush 10, 2, 0, 0, 0) := by decide +kernel
theorem op170_293 : rn_op 170 293 = some (.iaload, 1, 0, 0, 0) := by decide +kernel
theorem op170_294 : rn_op 170 294 = some (.bipush 6, 2, 0, 0, 0) := by decide +kernel
theorem op170_296 : rn_op 170 296 = some (.if_icmp .ne 6, 3, 0, 0, 0) := by decide +kernel
theorem op170_299 : rn_op 170 299 = some (.bipush (-3), 2, 0, 0, 0) := by decide +kernel
theorem op170_301 : rn_op 170 301 = some (.ireturn, 1, 0, 0, 0) := by decide +kernel
theorem op170_302 : rn_op 170 302 = some (.bipush 64, 2, 0, 0, 0) := by decide +kernel
theorem op170_304 : rn_op 170 304 = some (.iconst 4, 1, 0, 0, 0) := by decide +kernel
theorem op170_305 : rn_op 170 305 = some (.aload_n 0, 1, 0, 0, 0) := by decide +kernel
theorem op170_306 : rn_op 170 306 = some (.getfield 7, 3, 11, 0, 3) := by decide +kernel
theorem op170_309 : rn_op 170 309 = some (.bipush 10, 2, 0, 0, 0) := by decide +kernel
theorem op170_311 : rn_op 170 311 = some (.iaload, 1, 0, 0, 0) := by decide +kernel
theorem op170_312 : rn_op 170 312 = some (.imul, 1, 0, 0, 0) := by decide +kernel
theorem op170_313 : rn_op 170 313 = some (.iadd, 1, 0, 0, 0) := by decide +kernel
theorem op170_314 : rn_op 170 314 = some (.istore 7, 2, 0, 0, 0) := by decide +kernel
theorem op170_316 : rn_op 170 316 = some (.aload_n 0, 1, 0, 0, 0) := by decide +kernel
theorem op170_317 : rn_op 170 317 = some (.getfield 7, 3, 11, 0, 3) := by decide +kernel
theorem op170_320 : rn_op 170 320 = some (.iload 7, 2, 0, 0, 0) := by decide +kernel
theorem op170_322 : rn_op 170 322 = some (.iload_n 1, 1, 0, 0, 0) := by decide +kernel
theorem op170_323 : rn_op 170 323 = some (.iastore, 1, 0, 0, 0) := by decide +kernel
theorem op170_324 : rn_op 170 324 = some (.aload_n 0, 1, 0, 0, 0) := by decide +kernel
theorem op170_325 : rn_op 170 325 = some (.getfield 7, 3, 11, 0, 3) := by decide +kernel
theorem op170_328 : rn_op 170 328 = some (.iload 7, 2, 0, 0, 0) := by decide +kernel
theorem op170_330 : rn_op 170 330 = some (.iconst 1, 1, 0, 0, 0) := by decide +kernel
theorem op170_331 : rn_op 170 331 = some (.iadd, 1, 0, 0, 0) := by decide +kernel
theorem op170_332 : rn_op 170 332 = some (.iload_n 2, 1, 0, 0, 0) := by decide +kernel
theorem op170_333 : rn_op 170 333 = some (.iastore, 1, 0, 0, 0) := by decide +kernel
theorem op170_334 : rn_op 170 334 = some (.aload_n 0, 1, 0, 0, 0) := by decide +kernel
theorem op170_335 : rn_op 170 335 = some (.getfield 7, 3, 11, 0, 3) := by decide +kernel
theorem op170_338 : rn_op 170 338 = some (.iload 7, 2, 0, 0, 0) := by decide +kernel
theorem op170_340 : rn_op 170 340 = some (.iconst 2, 1, 0, 0, 0) := by decide +kernel
theorem op170_341 : rn_op 170 341 = some (.iadd, 1, 0, 0, 0) := by decide +kernel
theorem op170_342 : rn_op 170 342 = some (.iload_n 3, 1, 0, 0, 0) := by decide +kernel
theorem op170_343 : rn_op 170 343 = some (.iastore, 1, 0, 0, 0) := by decide +kernel
theorem op170_344 : rn_op 170 344 = some (.aload_n 0, 1, 0, 0, 0) := by decide +kernel
theorem op170_345 : rn_op 170 345 = some (.getfield 7, 3, 11, 0, 3) := by decide +kernel
theorem op170_348 : rn_op 170 348 = some (.iload 7, 2, 0, 0, 0) := by decide +kernel
theorem op170_350 : rn_op 170 350 = some (.iconst 3, 1, 0, 0, 0) := by decide +kernel
theorem op170_351 : rn_op 170 351 = some (.iadd, 1, 0, 0, 0) := by decide +kernel
theorem op170_352 : rn_op 170 352 = some (.iload 4, 2, 0, 0, 0) := by decide +kernel
theorem op170_354 : rn_op 170 354 = some (.iastore, 1, 0, 0, 0) := by decide +kernel
theorem op170_355 : rn_op 170 355 = some (.aload_n 0, 1, 0, 0, 0) := by decide +kernel
theorem op170_356 : rn_op 170 356 = some (.getfield 7, 3, 11, 0, 3) := by decide +kernel
theorem op170_359 : rn_op 170 359 = some (.bipush 10, 2, 0, 0, 0) := by decide +kernel
theorem op170_361 : rn_op 170 361 = some (.dup2, 1, 0, 0, 0) := by decide +kernel
theorem op170_362 : rn_op 170 362 = some (.iaload, 1, 0, 0, 0) := by decide +kernel
theorem op170_363 : rn_op 170 363 = some (.iconst 1, 1, 0, 0, 0) := by decide +kernel
theorem op170_364 : rn_op 170 364 = some (.iadd, 1, 0, 0, 0) := by decide +kernel
theorem op170_365 : rn_op 170 365 = some (.iastore, 1, 0, 0, 0) := by decide +kernel
theorem op170_366 : rn_op 170 366 = some (.aload_n 0, 1, 0, 0, 0) := by decide +kernel
theorem op170_367 : rn_op 170 367 = some (.getfield 7, 3, 11, 0, 3) := by decide +kernel
theorem op170_370 : rn_op 170 370 = some (.bipush 10, 2, 0, 0, 0) := by decide +kernel
theorem op170_372 : rn_op 170 372 = some (.iaload, 1, 0, 0, 0) := by decide +kernel
theorem op170_373 : rn_op 170 373 = some (.iconst 1, 1, 0, 0, 0) := by decide +kernel
theorem op170_374 : rn_op 170 374 = some (.isub, 1, 0, 0, 0) := by decide +kernel
theorem op170_375 : rn_op 170 375 = some (.ireturn, 1, 0, 0, 0) := by decide +kernel
def mo_clue (n : Nat) (a1 : Int32) (a2 : Int32) (a3 : Int32) (a4 : Int32) (m : rn_Mem) : Option (Int32 × rn_Mem) :=
  (show Option (Int32 × rn_Mem) from
    if a1 = 0 then
      (mo_in n (a2.toInt64) 0 3 m).bind fun (r3, m2) =>
      if r3 = 0 then
        some (0, m2)
      else
        (mo_in n (a3.toInt64) 0 15 m2).bind fun (r7, m6) =>
        if r7 = 0 then
          some (0, m6)
        else
          some (1, m6)
    else
      if a1 = 1 then
        (mo_in n (a2.toInt64) 0 3 m).bind fun (r12, m11) =>
        if r12 = 0 then
          some (0, m11)
        else
          (mo_in n (a3.toInt64) 0 3 m11).bind fun (r16, m15) =>
          if r16 = 0 then
            some (0, m15)
          else
            some (1, m15)
      else
        if a1 = 2 then
          (mo_in n (a2.toInt64) 0 15 m).bind fun (r21, m20) =>
          if r21 = 0 then
            some (0, m20)
          else
            (mo_in n (a3.toInt64) 0 15 m20).bind fun (r25, m24) =>
            if r25 = 0 then
              some (0, m24)
            else
              if a2 = a3 then
                some (0, m24)
              else
                some (1, m24)
        else
          if a1 = 3 then
            (mo_in n (a2.toInt64) 0 3 m).bind fun (r31, m30) =>
            if r31 = 0 then
              some (0, m30)
            else
              (mo_in n (a3.toInt64) 0 3 m30).bind fun (r35, m34) =>
              if r35 = 0 then
                some (0, m34)
              else
                some (1, m34)
          else
            some (0, m)).bind fun (x41, m42) =>
  if x41 = 0 then
    some ((-1), m42)
  else
    (show Option (Int64) from
      if a1 = 3 then
        some (3)
      else
        some (0)).bind fun x48 =>
    (mo_in n (a4.toInt64) 0 x48 m42).bind fun (r50, m49) =>
    if r50 = 0 then
      some ((-1), m49)
    else
      if (m49.1 116 0) = 0 then
        some ((-2), m49)
      else
        (show Option (Int32 × rn_Mem) from
          if a1 = 2 then
            (mo_isInPack n a2 m49).bind fun (r56, m55) =>
            if r56 = 0 then
              some (0, m55)
            else
              (mo_isInPack n a3 m55).bind fun (r60, m59) =>
              if r60 = 0 then
                some (0, m59)
              else
                some (1, m59)
          else
            (mo_isChair n a2 m49).bind fun (r64, m63) =>
            if r64 = 0 then
              some (0, m63)
            else
              if a1 = 0 then
                (mo_isInPack n a3 m63).bind fun (r69, m68) =>
                if r69 = 0 then
                  some (0, m68)
                else
                  some (1, m68)
              else
                if a1 = 1 then
                  if a3 < (m63.1 116 2) then
                    some (1, m63)
                  else
                    some (0, m63)
                else
                  if a4 < (m63.1 116 2) then
                    some (1, m63)
                  else
                    some (0, m63)).bind fun (x78, m79) =>
        if x78 = 0 then
          some ((-1), m79)
        else
          if (m79.1 116 10) = 6 then
            some ((-3), m79)
          else
            (some ((64 : Int32) + ((4 : Int32) * (m79.1 116 10)))).bind fun (x83 : Int32) =>
            if rn_in x83 101 = true then
              (some (rm_i m79 116 x83.toNatClampNeg a1)).bind fun (m84 : rn_Mem) =>
              if rn_in (x83 + 1) 101 = true then
                (some (rm_i m84 116 (x83 + 1).toNatClampNeg a2)).bind fun (m86 : rn_Mem) =>
                if rn_in (x83 + 2) 101 = true then
                  (some (rm_i m86 116 (x83 + 2).toNatClampNeg a3)).bind fun (m88 : rn_Mem) =>
                  if rn_in (x83 + 3) 101 = true then
                    (some (rm_i m88 116 (x83 + 3).toNatClampNeg a4)).bind fun (m90 : rn_Mem) =>
                    (some (rm_i m90 116 10 ((m90.1 116 10) + 1))).bind fun (m92 : rn_Mem) =>
                    some ((m92.1 116 10) - 1, m92)
                  else none
                else none
              else none
            else none
set_option maxHeartbeats 4000000 in
set_option maxRecDepth 20000 in
theorem mo_clue_ok (xs : List Int32) {d : Nat} (hd : 2 ≤ d) {n : Nat} {a1 : Int32} {a2 : Int32} {a3 : Int32} {a4 : Int32} {m mO : rn_Mem} {rO : Int32} (h : mo_clue n a1 a2 a3 a4 m = some (rO, mO)) : rn_R xs d 170 0 (rn_ent 8 [.ref 115, .int a1, .int a2, .int a3, .int a4]) [] (rn_SH, m) (some (.int rO)) (rn_SH, mO) := by
  obtain ⟨d, rfl⟩ : ∃ e, d = e + 1 := ⟨d - 1, by omega⟩
  unfold mo_clue at h
  show rn_R xs (d + 1) 170 0 [some (.ref 115), some (.int a1), some (.int a2), some (.int a3), some (.int a4), none, none, none] [] (rn_SH, m) (some (.int rO)) (rn_SH, mO)
  refine rx_p (L2 := [some (.ref 115), some (.int a1), some (.int a2), some (.int a3), some (.int a4), none, none, none]) (S2 := [.int a1]) (pc2 := 1) op170_0 rfl rfl ?_
  obtain ⟨⟨x41, m42⟩, gc95, h⟩ := rq_bind h
  try dsimp only at h
  have c95 : ∀ (o38 o39 o40 : Option Value), rn_R xs (d + 1) 170 149 [some (.ref 115), some (.int a1), some (.int a2), some (.int a3), some (.int a4), o38, o39, o40] [.int x41] (rn_SH, m42) (some (.int rO)) (rn_SH, mO) := by
    intro o38 o39 o40
    refine rx_s (L2 := [some (.ref 115), some (.int a1), some (.int a2), some (.int a3), some (.int a4), some (.int x41), o39, o40]) (pc2 := 151) op170_149 rfl rfl rfl ?_
    refine rx_p (L2 := [some (.ref 115), some (.int a1), some (.int a2), some (.int a3), some (.int a4), some (.int x41), o39, o40]) (S2 := [.int x41]) (pc2 := 153) op170_151 rfl rfl ?_
    refine ry_if_eq (tgt := 178) (pc2 := 156) op170_153 (by decide) (by decide) rfl (fun b43 => ?_) (fun b43 => ?_)
    · have h := (if_pos b43).symm.trans h
      refine rx_ic (v := (-1)) (pc2 := 179) op170_178 (by decide) rfl ?_
      obtain ⟨rfl, rfl⟩ := rq_ret h
      exact ry_ri op170_179 ms_170 rfl
    · have h := (if_neg b43).symm.trans h
      refine rx_p (L2 := [some (.ref 115), some (.int a1), some (.int a2), some (.int a3), some (.int a4), some (.int x41), o39, o40]) (S2 := [.int a4]) (pc2 := 158) op170_156 rfl rfl ?_
      refine rx_p (L2 := [some (.ref 115), some (.int a1), some (.int a2), some (.int a3), some (.int a4), some (.int x41), o39, o40]) (S2 := [.long (a4.toInt64)]) (pc2 := 159) op170_158 rfl rfl ?_
      refine rx_lc (v := 0) (pc2 := 160) op170_159 (by decide) rfl ?_
      refine rx_p (L2 := [some (.ref 115), some (.int a1), some (.int a2), some (.int a3), some (.int a4), some (.int x41), o39, o40]) (S2 := [.int a1, .long 0, .long (a4.toInt64)]) (pc2 := 161) op170_160 rfl rfl ?_
      refine rx_ic (v := 3) (pc2 := 162) op170_161 (by decide) rfl ?_
      obtain ⟨x48, gc94, h⟩ := rq_bind h
      try dsimp only at h
      have c94 : ∀ (o45 o46 o47 : Option Value), rn_R xs (d + 1) 170 172 [some (.ref 115), some (.int a1), some (.int a2), some (.int a3), some (.int a4), o45, o46, o47] [.long x48, .long 0, .long (a4.toInt64)] (rn_SH, m42) (some (.int rO)) (rn_SH, mO) := by
        intro o45 o46 o47
        obtain ⟨⟨r50, m49⟩, f51, h⟩ := rq_bind h
        try dsimp only at h
        refine ry_is (vs := [.long (a4.toInt64), .long 0, .long x48]) (T := []) (pc2 := 175) op170_172 (by decide) ms_147 (by decide) rfl rfl (Nat.le_of_ble_eq_true rfl) (Nat.le_of_ble_eq_true rfl) (mo_in_ok xs (by omega)  f51) rfl ?_
        show rn_R _ _ _ _ _ [.int r50] _ _ _
        refine ry_if_ne (tgt := 180) (pc2 := 178) op170_175 (by decide) (by decide) rfl (fun b52 => ?_) (fun b52 => ?_)
        · have h := (if_pos b52).symm.trans h
          refine rx_ic (v := (-1)) (pc2 := 179) op170_178 (by decide) rfl ?_
          obtain ⟨rfl, rfl⟩ := rq_ret h
          exact ry_ri op170_179 ms_170 rfl
        · have h := (if_neg b52).symm.trans h
          refine rx_p (L2 := [some (.ref 115), some (.int a1), some (.int a2), some (.int a3), some (.int a4), o45, o46, o47]) (S2 := [.ref 115]) (pc2 := 181) op170_180 rfl rfl ?_
          refine rx_gf (v := .ref 116) (pc2 := 184) op170_181 sp_115 rfl rfl rfl ?_
          refine rx_ic (v := 0) (pc2 := 185) op170_184 (by decide) rfl ?_
          refine rx_ia (j := 0) (pc2 := 186) op170_185 (rn_shlt sp_116) sp_116 (by decide) (by decide) rfl ?_
          refine ry_if_ne (tgt := 192) (pc2 := 189) op170_186 (by decide) (by decide) rfl (fun b53 => ?_) (fun b53 => ?_)
          · have h := (if_pos b53).symm.trans h
            refine rx_bp (v := (-2)) (pc2 := 191) op170_189 (by decide) rfl ?_
            obtain ⟨rfl, rfl⟩ := rq_ret h
            exact ry_ri op170_191 ms_170 rfl
          · have h := (if_neg b53).symm.trans h
            refine rx_p (L2 := [some (.ref 115), some (.int a1), some (.int a2), some (.int a3), some (.int a4), o45, o46, o47]) (S2 := [.int a1]) (pc2 := 193) op170_192 rfl rfl ?_
            refine rx_ic (v := 2) (pc2 := 194) op170_193 (by decide) rfl ?_
            obtain ⟨⟨x78, m79⟩, gc93, h⟩ := rq_bind h
            try dsimp only at h
            have c93 : ∀ (o75 o76 o77 : Option Value), rn_R xs (d + 1) 170 278 [some (.ref 115), some (.int a1), some (.int a2), some (.int a3), some (.int a4), o75, o76, o77] [.int x78] (rn_SH, m79) (some (.int rO)) (rn_SH, mO) := by
              intro o75 o76 o77
              refine rx_sd (v := x78) (j := 5) (pc2 := 280) op170_278 rfl rfl (Nat.le_of_ble_eq_true rfl) rfl (fun o80 => ?_)
              show rn_R _ _ _ _ [some (.ref 115), some (.int a1), some (.int a2), some (.int a3), some (.int a4), o80, some (.int x78), o77] _ _ _ _
              refine rx_p (L2 := [some (.ref 115), some (.int a1), some (.int a2), some (.int a3), some (.int a4), o80, some (.int x78), o77]) (S2 := [.int x78]) (pc2 := 282) op170_280 rfl rfl ?_
              refine ry_if_ne (tgt := 287) (pc2 := 285) op170_282 (by decide) (by decide) rfl (fun b81 => ?_) (fun b81 => ?_)
              · have h := (if_pos b81).symm.trans h
                refine rx_ic (v := (-1)) (pc2 := 286) op170_285 (by decide) rfl ?_
                obtain ⟨rfl, rfl⟩ := rq_ret h
                exact ry_ri op170_286 ms_170 rfl
              · have h := (if_neg b81).symm.trans h
                refine rx_p (L2 := [some (.ref 115), some (.int a1), some (.int a2), some (.int a3), some (.int a4), o80, some (.int x78), o77]) (S2 := [.ref 115]) (pc2 := 288) op170_287 rfl rfl ?_
                refine rx_gf (v := .ref 116) (pc2 := 291) op170_288 sp_115 rfl rfl rfl ?_
                refine rx_bp (v := 10) (pc2 := 293) op170_291 (by decide) rfl ?_
                refine rx_ia (j := 10) (pc2 := 294) op170_293 (rn_shlt sp_116) sp_116 (by decide) (by decide) rfl ?_
                refine rx_bp (v := 6) (pc2 := 296) op170_294 (by decide) rfl ?_
                refine ry_ic_ne (tgt := 302) (pc2 := 299) op170_296 (by decide) (by decide) rfl (fun b82 => ?_) (fun b82 => ?_)
                · have h := (if_pos b82).symm.trans h
                  refine rx_bp (v := (-3)) (pc2 := 301) op170_299 (by decide) rfl ?_
                  obtain ⟨rfl, rfl⟩ := rq_ret h
                  exact ry_ri op170_301 ms_170 rfl
                · have h := (if_neg b82).symm.trans h
                  refine rx_bp (v := 64) (pc2 := 304) op170_302 (by decide) rfl ?_
                  refine rx_ic (v := 4) (pc2 := 305) op170_304 (by decide) rfl ?_
                  refine rx_p (L2 := [some (.ref 115), some (.int a1), some (.int a2), some (.int a3), some (.int a4), o80, some (.int x78), o77]) (S2 := [.ref 115, .int 4, .int 64]) (pc2 := 306) op170_305 rfl rfl ?_
                  refine rx_gf (v := .ref 116) (pc2 := 309) op170_306 sp_115 rfl rfl rfl ?_
                  refine rx_bp (v := 10) (pc2 := 311) op170_309 (by decide) rfl ?_
                  refine rx_ia (j := 10) (pc2 := 312) op170_311 (rn_shlt sp_116) sp_116 (by decide) (by decide) rfl ?_
                  refine rx_p (L2 := [some (.ref 115), some (.int a1), some (.int a2), some (.int a3), some (.int a4), o80, some (.int x78), o77]) (S2 := [.int ((4 : Int32) * (m79.1 116 10)), .int 64]) (pc2 := 313) op170_312 rfl rfl ?_
                  refine rx_p (L2 := [some (.ref 115), some (.int a1), some (.int a2), some (.int a3), some (.int a4), o80, some (.int x78), o77]) (S2 := [.int ((64 : Int32) + ((4 : Int32) * (m79.1 116 10)))]) (pc2 := 314) op170_313 rfl rfl ?_
                  obtain ⟨x83, ex83, h⟩ := rq_bv h
                  refine rx_s (v := x83) (L2 := [some (.ref 115), some (.int a1), some (.int a2), some (.int a3), some (.int a4), o80, some (.int x78), some (.int x83)]) (pc2 := 316) op170_314 ex83 rfl rfl ?_
                  refine rx_p (L2 := [some (.ref 115), some (.int a1), some (.int a2), some (.int a3), some (.int a4), o80, some (.int x78), some (.int x83)]) (S2 := [.ref 115]) (pc2 := 317) op170_316 rfl rfl ?_
                  refine rx_gf (v := .ref 116) (pc2 := 320) op170_317 sp_115 rfl rfl rfl ?_
                  refine rx_p (L2 := [some (.ref 115), some (.int a1), some (.int a2), some (.int a3), some (.int a4), o80, some (.int x78), some (.int x83)]) (S2 := [.int x83, .ref 116]) (pc2 := 322) op170_320 rfl rfl ?_
                  refine rx_p (L2 := [some (.ref 115), some (.int a1), some (.int a2), some (.int a3), some (.int a4), o80, some (.int x78), some (.int x83)]) (S2 := [.int a1, .int x83, .ref 116]) (pc2 := 323) op170_322 rfl rfl ?_
                  obtain ⟨k85, h⟩ := rq_chk h
                  obtain ⟨m84, em84, h⟩ := rq_bv h
                  refine rx_is (m2 := m84) (pc2 := 324) op170_323 sp_116 k85 rfl em84 rfl ?_
                  refine rx_p (L2 := [some (.ref 115), some (.int a1), some (.int a2), some (.int a3), some (.int a4), o80, some (.int x78), some (.int x83)]) (S2 := [.ref 115]) (pc2 := 325) op170_324 rfl rfl ?_
                  refine rx_gf (v := .ref 116) (pc2 := 328) op170_325 sp_115 rfl rfl rfl ?_
                  refine rx_p (L2 := [some (.ref 115), some (.int a1), some (.int a2), some (.int a3), some (.int a4), o80, some (.int x78), some (.int x83)]) (S2 := [.int x83, .ref 116]) (pc2 := 330) op170_328 rfl rfl ?_
                  refine rx_ic (v := 1) (pc2 := 331) op170_330 (by decide) rfl ?_
                  refine rx_p (L2 := [some (.ref 115), some (.int a1), some (.int a2), some (.int a3), some (.int a4), o80, some (.int x78), some (.int x83)]) (S2 := [.int (x83 + 1), .ref 116]) (pc2 := 332) op170_331 rfl rfl ?_
                  refine rx_p (L2 := [some (.ref 115), some (.int a1), some (.int a2), some (.int a3), some (.int a4), o80, some (.int x78), some (.int x83)]) (S2 := [.int a2, .int (x83 + 1), .ref 116]) (pc2 := 333) op170_332 rfl rfl ?_
                  obtain ⟨k87, h⟩ := rq_chk h
                  obtain ⟨m86, em86, h⟩ := rq_bv h
                  refine rx_is (m2 := m86) (pc2 := 334) op170_333 sp_116 k87 rfl em86 rfl ?_
                  refine rx_p (L2 := [some (.ref 115), some (.int a1), some (.int a2), some (.int a3), some (.int a4), o80, some (.int x78), some (.int x83)]) (S2 := [.ref 115]) (pc2 := 335) op170_334 rfl rfl ?_
                  refine rx_gf (v := .ref 116) (pc2 := 338) op170_335 sp_115 rfl rfl rfl ?_
                  refine rx_p (L2 := [some (.ref 115), some (.int a1), some (.int a2), some (.int a3), some (.int a4), o80, some (.int x78), some (.int x83)]) (S2 := [.int x83, .ref 116]) (pc2 := 340) op170_338 rfl rfl ?_
                  refine rx_ic (v := 2) (pc2 := 341) op170_340 (by decide) rfl ?_
                  refine rx_p (L2 := [some (.ref 115), some (.int a1), some (.int a2), some (.int a3), some (.int a4), o80, some (.int x78), some (.int x83)]) (S2 := [.int (x83 + 2), .ref 116]) (pc2 := 342) op170_341 rfl rfl ?_
                  refine rx_p (L2 := [some (.ref 115), some (.int a1), some (.int a2), some (.int a3), some (.int a4), o80, some (.int x78), some (.int x83)]) (S2 := [.int a3, .int (x83 + 2), .ref 116]) (pc2 := 343) op170_342 rfl rfl ?_
                  obtain ⟨k89, h⟩ := rq_chk h
                  obtain ⟨m88, em88, h⟩ := rq_bv h
                  refine rx_is (m2 := m88) (pc2 := 344) op170_343 sp_116 k89 rfl em88 rfl ?_
                  refine rx_p (L2 := [some (.ref 115), some (.int a1), some (.int a2), some (.int a3), some (.int a4), o80, some (.int x78), some (.int x83)]) (S2 := [.ref 115]) (pc2 := 345) op170_344 rfl rfl ?_
                  refine rx_gf (v := .ref 116) (pc2 := 348) op170_345 sp_115 rfl rfl rfl ?_
                  refine rx_p (L2 := [some (.ref 115), some (.int a1), some (.int a2), some (.int a3), some (.int a4), o80, some (.int x78), some (.int x83)]) (S2 := [.int x83, .ref 116]) (pc2 := 350) op170_348 rfl rfl ?_
                  refine rx_ic (v := 3) (pc2 := 351) op170_350 (by decide) rfl ?_
                  refine rx_p (L2 := [some (.ref 115), some (.int a1), some (.int a2), some (.int a3), some (.int a4), o80, some (.int x78), some (.int x83)]) (S2 := [.int (x83 + 3), .ref 116]) (pc2 := 352) op170_351 rfl rfl ?_
                  refine rx_p (L2 := [some (.ref 115), some (.int a1), some (.int a2), some (.int a3), some (.int a4), o80, some (.int x78), some (.int x83)]) (S2 := [.int a4, .int (x83 + 3), .ref 116]) (pc2 := 354) op170_352 rfl rfl ?_
                  obtain ⟨k91, h⟩ := rq_chk h
                  obtain ⟨m90, em90, h⟩ := rq_bv h
                  refine rx_is (m2 := m90) (pc2 := 355) op170_354 sp_116 k91 rfl em90 rfl ?_
                  refine rx_p (L2 := [some (.ref 115), some (.int a1), some (.int a2), some (.int a3), some (.int a4), o80, some (.int x78), some (.int x83)]) (S2 := [.ref 115]) (pc2 := 356) op170_355 rfl rfl ?_
                  refine rx_gf (v := .ref 116) (pc2 := 359) op170_356 sp_115 rfl rfl rfl ?_
                  refine rx_bp (v := 10) (pc2 := 361) op170_359 (by decide) rfl ?_
                  refine rx_p (L2 := [some (.ref 115), some (.int a1), some (.int a2), some (.int a3), some (.int a4), o80, some (.int x78), some (.int x83)]) (S2 := [.int 10, .ref 116, .int 10, .ref 116]) (pc2 := 362) op170_361 rfl rfl ?_
                  refine rx_ia (j := 10) (pc2 := 363) op170_362 (rn_shlt sp_116) sp_116 (by decide) (by decide) rfl ?_
                  refine rx_ic (v := 1) (pc2 := 364) op170_363 (by decide) rfl ?_
                  refine rx_p (L2 := [some (.ref 115), some (.int a1), some (.int a2), some (.int a3), some (.int a4), o80, some (.int x78), some (.int x83)]) (S2 := [.int ((m90.1 116 10) + 1), .int 10, .ref 116]) (pc2 := 365) op170_364 rfl rfl ?_
                  obtain ⟨m92, em92, h⟩ := rq_bv h
                  refine rx_is (j := 10) (m2 := m92) (pc2 := 366) op170_365 sp_116 (by decide) (by decide) em92 rfl ?_
                  refine rx_p (L2 := [some (.ref 115), some (.int a1), some (.int a2), some (.int a3), some (.int a4), o80, some (.int x78), some (.int x83)]) (S2 := [.ref 115]) (pc2 := 367) op170_366 rfl rfl ?_
                  refine rx_gf (v := .ref 116) (pc2 := 370) op170_367 sp_115 rfl rfl rfl ?_
                  refine rx_bp (v := 10) (pc2 := 372) op170_370 (by decide) rfl ?_
                  refine rx_ia (j := 10) (pc2 := 373) op170_372 (rn_shlt sp_116) sp_116 (by decide) (by decide) rfl ?_
                  refine rx_ic (v := 1) (pc2 := 374) op170_373 (by decide) rfl ?_
                  refine rx_p (L2 := [some (.ref 115), some (.int a1), some (.int a2), some (.int a3), some (.int a4), o80, some (.int x78), some (.int x83)]) (S2 := [.int ((m92.1 116 10) - 1)]) (pc2 := 375) op170_374 rfl rfl ?_
                  obtain ⟨rfl, rfl⟩ := rq_ret h
                  exact ry_ri op170_375 ms_170 rfl
            refine ry_ic_ne (tgt := 221) (pc2 := 197) op170_194 (by decide) (by decide) rfl (fun b54 => ?_) (fun b54 => ?_)
            · have gc93 := (if_pos b54).symm.trans gc93
              refine rx_p (L2 := [some (.ref 115), some (.int a1), some (.int a2), some (.int a3), some (.int a4), o45, o46, o47]) (S2 := [.ref 115]) (pc2 := 198) op170_197 rfl rfl ?_
              refine rx_p (L2 := [some (.ref 115), some (.int a1), some (.int a2), some (.int a3), some (.int a4), o45, o46, o47]) (S2 := [.int a2, .ref 115]) (pc2 := 199) op170_198 rfl rfl ?_
              obtain ⟨⟨r56, m55⟩, f57, gc93⟩ := rq_bind gc93
              try dsimp only at gc93
              refine ry_iv (p := 115) (vs := [.int a2]) (T := []) (pc2 := 202) op170_199 ms_169 (by decide) rfl rfl (Nat.le_of_ble_eq_true rfl) (Nat.le_of_ble_eq_true rfl) sp_115 (mo_isInPack_ok xs (by omega)  f57) rfl ?_
              show rn_R _ _ _ _ _ [.int r56] _ _ _
              refine ry_if_eq (tgt := 217) (pc2 := 205) op170_202 (by decide) (by decide) rfl (fun b58 => ?_) (fun b58 => ?_)
              · have gc93 := (if_pos b58).symm.trans gc93
                refine rx_ic (v := 0) (pc2 := 218) op170_217 (by decide) rfl ?_
                refine ry_go (tgt := 278) op170_218 (by decide) (by decide) ?_
                cases gc93
                exact c93 _ _ _
              · have gc93 := (if_neg b58).symm.trans gc93
                refine rx_p (L2 := [some (.ref 115), some (.int a1), some (.int a2), some (.int a3), some (.int a4), o45, o46, o47]) (S2 := [.ref 115]) (pc2 := 206) op170_205 rfl rfl ?_
                refine rx_p (L2 := [some (.ref 115), some (.int a1), some (.int a2), some (.int a3), some (.int a4), o45, o46, o47]) (S2 := [.int a3, .ref 115]) (pc2 := 207) op170_206 rfl rfl ?_
                obtain ⟨⟨r60, m59⟩, f61, gc93⟩ := rq_bind gc93
                try dsimp only at gc93
                refine ry_iv (p := 115) (vs := [.int a3]) (T := []) (pc2 := 210) op170_207 ms_169 (by decide) rfl rfl (Nat.le_of_ble_eq_true rfl) (Nat.le_of_ble_eq_true rfl) sp_115 (mo_isInPack_ok xs (by omega)  f61) rfl ?_
                show rn_R _ _ _ _ _ [.int r60] _ _ _
                refine ry_if_eq (tgt := 217) (pc2 := 213) op170_210 (by decide) (by decide) rfl (fun b62 => ?_) (fun b62 => ?_)
                · have gc93 := (if_pos b62).symm.trans gc93
                  refine rx_ic (v := 0) (pc2 := 218) op170_217 (by decide) rfl ?_
                  refine ry_go (tgt := 278) op170_218 (by decide) (by decide) ?_
                  cases gc93
                  exact c93 _ _ _
                · have gc93 := (if_neg b62).symm.trans gc93
                  refine rx_ic (v := 1) (pc2 := 214) op170_213 (by decide) rfl ?_
                  refine ry_go (tgt := 278) op170_214 (by decide) (by decide) ?_
                  cases gc93
                  exact c93 _ _ _
            · have gc93 := (if_neg b54).symm.trans gc93
              refine rx_p (L2 := [some (.ref 115), some (.int a1), some (.int a2), some (.int a3), some (.int a4), o45, o46, o47]) (S2 := [.ref 115]) (pc2 := 222) op170_221 rfl rfl ?_
              refine rx_p (L2 := [some (.ref 115), some (.int a1), some (.int a2), some (.int a3), some (.int a4), o45, o46, o47]) (S2 := [.int a2, .ref 115]) (pc2 := 223) op170_222 rfl rfl ?_
              obtain ⟨⟨r64, m63⟩, f65, gc93⟩ := rq_bind gc93
              try dsimp only at gc93
              refine ry_iv (p := 115) (vs := [.int a2]) (T := []) (pc2 := 226) op170_223 ms_167 (by decide) rfl rfl (Nat.le_of_ble_eq_true rfl) (Nat.le_of_ble_eq_true rfl) sp_115 (mo_isChair_ok xs (by omega)  f65) rfl ?_
              show rn_R _ _ _ _ _ [.int r64] _ _ _
              refine ry_if_eq (tgt := 277) (pc2 := 229) op170_226 (by decide) (by decide) rfl (fun b66 => ?_) (fun b66 => ?_)
              · have gc93 := (if_pos b66).symm.trans gc93
                refine rx_ic (v := 0) (pc2 := 278) op170_277 (by decide) rfl ?_
                cases gc93
                exact c93 _ _ _
              · have gc93 := (if_neg b66).symm.trans gc93
                refine rx_p (L2 := [some (.ref 115), some (.int a1), some (.int a2), some (.int a3), some (.int a4), o45, o46, o47]) (S2 := [.int a1]) (pc2 := 230) op170_229 rfl rfl ?_
                refine ry_if_ne (tgt := 244) (pc2 := 233) op170_230 (by decide) (by decide) rfl (fun b67 => ?_) (fun b67 => ?_)
                · have gc93 := (if_pos b67).symm.trans gc93
                  refine rx_p (L2 := [some (.ref 115), some (.int a1), some (.int a2), some (.int a3), some (.int a4), o45, o46, o47]) (S2 := [.ref 115]) (pc2 := 234) op170_233 rfl rfl ?_
                  refine rx_p (L2 := [some (.ref 115), some (.int a1), some (.int a2), some (.int a3), some (.int a4), o45, o46, o47]) (S2 := [.int a3, .ref 115]) (pc2 := 235) op170_234 rfl rfl ?_
                  obtain ⟨⟨r69, m68⟩, f70, gc93⟩ := rq_bind gc93
                  try dsimp only at gc93
                  refine ry_iv (p := 115) (vs := [.int a3]) (T := []) (pc2 := 238) op170_235 ms_169 (by decide) rfl rfl (Nat.le_of_ble_eq_true rfl) (Nat.le_of_ble_eq_true rfl) sp_115 (mo_isInPack_ok xs (by omega)  f70) rfl ?_
                  show rn_R _ _ _ _ _ [.int r69] _ _ _
                  refine ry_if_eq (tgt := 277) (pc2 := 241) op170_238 (by decide) (by decide) rfl (fun b71 => ?_) (fun b71 => ?_)
                  · have gc93 := (if_pos b71).symm.trans gc93
                    refine rx_ic (v := 0) (pc2 := 278) op170_277 (by decide) rfl ?_
                    cases gc93
                    exact c93 _ _ _
                  · have gc93 := (if_neg b71).symm.trans gc93
                    refine ry_go (tgt := 273) op170_241 (by decide) (by decide) ?_
                    refine rx_ic (v := 1) (pc2 := 274) op170_273 (by decide) rfl ?_
                    refine ry_go (tgt := 278) op170_274 (by decide) (by decide) ?_
                    cases gc93
                    exact c93 _ _ _
                · have gc93 := (if_neg b67).symm.trans gc93
                  refine rx_p (L2 := [some (.ref 115), some (.int a1), some (.int a2), some (.int a3), some (.int a4), o45, o46, o47]) (S2 := [.int a1]) (pc2 := 245) op170_244 rfl rfl ?_
                  refine rx_ic (v := 1) (pc2 := 246) op170_245 (by decide) rfl ?_
                  refine ry_ic_ne (tgt := 262) (pc2 := 249) op170_246 (by decide) (by decide) rfl (fun b72 => ?_) (fun b72 => ?_)
                  · have gc93 := (if_pos b72).symm.trans gc93
                    refine rx_p (L2 := [some (.ref 115), some (.int a1), some (.int a2), some (.int a3), some (.int a4), o45, o46, o47]) (S2 := [.int a3]) (pc2 := 250) op170_249 rfl rfl ?_
                    refine rx_p (L2 := [some (.ref 115), some (.int a1), some (.int a2), some (.int a3), some (.int a4), o45, o46, o47]) (S2 := [.ref 115, .int a3]) (pc2 := 251) op170_250 rfl rfl ?_
                    refine rx_gf (v := .ref 116) (pc2 := 254) op170_251 sp_115 rfl rfl rfl ?_
                    refine rx_ic (v := 2) (pc2 := 255) op170_254 (by decide) rfl ?_
                    refine rx_ia (j := 2) (pc2 := 256) op170_255 (rn_shlt sp_116) sp_116 (by decide) (by decide) rfl ?_
                    refine ry_ic_ge (tgt := 277) (pc2 := 259) op170_256 (by decide) (by decide) rfl (fun b73 => ?_) (fun b73 => ?_)
                    · have gc93 := (if_pos b73).symm.trans gc93
                      refine ry_go (tgt := 273) op170_259 (by decide) (by decide) ?_
                      refine rx_ic (v := 1) (pc2 := 274) op170_273 (by decide) rfl ?_
                      refine ry_go (tgt := 278) op170_274 (by decide) (by decide) ?_
                      cases gc93
                      exact c93 _ _ _
                    · have gc93 := (if_neg b73).symm.trans gc93
                      refine rx_ic (v := 0) (pc2 := 278) op170_277 (by decide) rfl ?_
                      cases gc93
                      exact c93 _ _ _
                  · have gc93 := (if_neg b72).symm.trans gc93
                    refine rx_p (L2 := [some (.ref 115), some (.int a1), some (.int a2), some (.int a3), some (.int a4), o45, o46, o47]) (S2 := [.int a4]) (pc2 := 264) op170_262 rfl rfl ?_
                    refine rx_p (L2 := [some (.ref 115), some (.int a1), some (.int a2), some (.int a3), some (.int a4), o45, o46, o47]) (S2 := [.ref 115, .int a4]) (pc2 := 265) op170_264 rfl rfl ?_
                    refine rx_gf (v := .ref 116) (pc2 := 268) op170_265 sp_115 rfl rfl rfl ?_
                    refine rx_ic (v := 2) (pc2 := 269) op170_268 (by decide) rfl ?_
                    refine rx_ia (j := 2) (pc2 := 270) op170_269 (rn_shlt sp_116) sp_116 (by decide) (by decide) rfl ?_
                    refine ry_ic_ge (tgt := 277) (pc2 := 273) op170_270 (by decide) (by decide) rfl (fun b74 => ?_) (fun b74 => ?_)
                    · have gc93 := (if_pos b74).symm.trans gc93
                      refine rx_ic (v := 1) (pc2 := 274) op170_273 (by decide) rfl ?_
                      refine ry_go (tgt := 278) op170_274 (by decide) (by decide) ?_
                      cases gc93
                      exact c93 _ _ _
                    · have gc93 := (if_neg b74).symm.trans gc93
                      refine rx_ic (v := 0) (pc2 := 278) op170_277 (by decide) rfl ?_
                      cases gc93
                      exact c93 _ _ _
      refine ry_ic_ne (tgt := 171) (pc2 := 165) op170_162 (by decide) (by decide) rfl (fun b44 => ?_) (fun b44 => ?_)
      · have gc94 := (if_pos b44).symm.trans gc94
        refine rx_ld2 (v := 3) (pc2 := 168) op170_165 (by decide) rfl ?_
        refine ry_go (tgt := 172) op170_168 (by decide) (by decide) ?_
        cases gc94
        exact c94 _ _ _
      · have gc94 := (if_neg b44).symm.trans gc94
        refine rx_lc (v := 0) (pc2 := 172) op170_171 (by decide) rfl ?_
        cases gc94
        exact c94 _ _ _
  refine ry_if_ne (tgt := 36) (pc2 := 4) op170_1 (by decide) (by decide) rfl (fun b1 => ?_) (fun b1 => ?_)
  · have gc95 := (if_pos b1).symm.trans gc95
    refine rx_p (L2 := [some (.ref 115), some (.int a1), some (.int a2), some (.int a3), some (.int a4), none, none, none]) (S2 := [.int a2]) (pc2 := 5) op170_4 rfl rfl ?_
    refine rx_p (L2 := [some (.ref 115), some (.int a1), some (.int a2), some (.int a3), some (.int a4), none, none, none]) (S2 := [.long (a2.toInt64)]) (pc2 := 6) op170_5 rfl rfl ?_
    refine rx_lc (v := 0) (pc2 := 7) op170_6 (by decide) rfl ?_
    refine rx_ld2 (v := 3) (pc2 := 10) op170_7 (by decide) rfl ?_
    obtain ⟨⟨r3, m2⟩, f4, gc95⟩ := rq_bind gc95
    try dsimp only at gc95
    refine ry_is (vs := [.long (a2.toInt64), .long 0, .long 3]) (T := []) (pc2 := 13) op170_10 (by decide) ms_147 (by decide) rfl rfl (Nat.le_of_ble_eq_true rfl) (Nat.le_of_ble_eq_true rfl) (mo_in_ok xs (by omega)  f4) rfl ?_
    show rn_R _ _ _ _ _ [.int r3] _ _ _
    refine ry_if_eq (tgt := 32) (pc2 := 16) op170_13 (by decide) (by decide) rfl (fun b5 => ?_) (fun b5 => ?_)
    · have gc95 := (if_pos b5).symm.trans gc95
      refine rx_ic (v := 0) (pc2 := 33) op170_32 (by decide) rfl ?_
      refine ry_go (tgt := 149) op170_33 (by decide) (by decide) ?_
      cases gc95
      exact c95 _ _ _
    · have gc95 := (if_neg b5).symm.trans gc95
      refine rx_p (L2 := [some (.ref 115), some (.int a1), some (.int a2), some (.int a3), some (.int a4), none, none, none]) (S2 := [.int a3]) (pc2 := 17) op170_16 rfl rfl ?_
      refine rx_p (L2 := [some (.ref 115), some (.int a1), some (.int a2), some (.int a3), some (.int a4), none, none, none]) (S2 := [.long (a3.toInt64)]) (pc2 := 18) op170_17 rfl rfl ?_
      refine rx_lc (v := 0) (pc2 := 19) op170_18 (by decide) rfl ?_
      refine rx_ld2 (v := 15) (pc2 := 22) op170_19 (by decide) rfl ?_
      obtain ⟨⟨r7, m6⟩, f8, gc95⟩ := rq_bind gc95
      try dsimp only at gc95
      refine ry_is (vs := [.long (a3.toInt64), .long 0, .long 15]) (T := []) (pc2 := 25) op170_22 (by decide) ms_147 (by decide) rfl rfl (Nat.le_of_ble_eq_true rfl) (Nat.le_of_ble_eq_true rfl) (mo_in_ok xs (by omega)  f8) rfl ?_
      show rn_R _ _ _ _ _ [.int r7] _ _ _
      refine ry_if_eq (tgt := 32) (pc2 := 28) op170_25 (by decide) (by decide) rfl (fun b9 => ?_) (fun b9 => ?_)
      · have gc95 := (if_pos b9).symm.trans gc95
        refine rx_ic (v := 0) (pc2 := 33) op170_32 (by decide) rfl ?_
        refine ry_go (tgt := 149) op170_33 (by decide) (by decide) ?_
        cases gc95
        exact c95 _ _ _
      · have gc95 := (if_neg b9).symm.trans gc95
        refine rx_ic (v := 1) (pc2 := 29) op170_28 (by decide) rfl ?_
        refine ry_go (tgt := 149) op170_29 (by decide) (by decide) ?_
        cases gc95
        exact c95 _ _ _
  · have gc95 := (if_neg b1).symm.trans gc95
    refine rx_p (L2 := [some (.ref 115), some (.int a1), some (.int a2), some (.int a3), some (.int a4), none, none, none]) (S2 := [.int a1]) (pc2 := 37) op170_36 rfl rfl ?_
    refine rx_ic (v := 1) (pc2 := 38) op170_37 (by decide) rfl ?_
    refine ry_ic_ne (tgt := 73) (pc2 := 41) op170_38 (by decide) (by decide) rfl (fun b10 => ?_) (fun b10 => ?_)
    · have gc95 := (if_pos b10).symm.trans gc95
      refine rx_p (L2 := [some (.ref 115), some (.int a1), some (.int a2), some (.int a3), some (.int a4), none, none, none]) (S2 := [.int a2]) (pc2 := 42) op170_41 rfl rfl ?_
      refine rx_p (L2 := [some (.ref 115), some (.int a1), some (.int a2), some (.int a3), some (.int a4), none, none, none]) (S2 := [.long (a2.toInt64)]) (pc2 := 43) op170_42 rfl rfl ?_
      refine rx_lc (v := 0) (pc2 := 44) op170_43 (by decide) rfl ?_
      refine rx_ld2 (v := 3) (pc2 := 47) op170_44 (by decide) rfl ?_
      obtain ⟨⟨r12, m11⟩, f13, gc95⟩ := rq_bind gc95
      try dsimp only at gc95
      refine ry_is (vs := [.long (a2.toInt64), .long 0, .long 3]) (T := []) (pc2 := 50) op170_47 (by decide) ms_147 (by decide) rfl rfl (Nat.le_of_ble_eq_true rfl) (Nat.le_of_ble_eq_true rfl) (mo_in_ok xs (by omega)  f13) rfl ?_
      show rn_R _ _ _ _ _ [.int r12] _ _ _
      refine ry_if_eq (tgt := 69) (pc2 := 53) op170_50 (by decide) (by decide) rfl (fun b14 => ?_) (fun b14 => ?_)
      · have gc95 := (if_pos b14).symm.trans gc95
        refine rx_ic (v := 0) (pc2 := 70) op170_69 (by decide) rfl ?_
        refine ry_go (tgt := 149) op170_70 (by decide) (by decide) ?_
        cases gc95
        exact c95 _ _ _
      · have gc95 := (if_neg b14).symm.trans gc95
        refine rx_p (L2 := [some (.ref 115), some (.int a1), some (.int a2), some (.int a3), some (.int a4), none, none, none]) (S2 := [.int a3]) (pc2 := 54) op170_53 rfl rfl ?_
        refine rx_p (L2 := [some (.ref 115), some (.int a1), some (.int a2), some (.int a3), some (.int a4), none, none, none]) (S2 := [.long (a3.toInt64)]) (pc2 := 55) op170_54 rfl rfl ?_
        refine rx_lc (v := 0) (pc2 := 56) op170_55 (by decide) rfl ?_
        refine rx_ld2 (v := 3) (pc2 := 59) op170_56 (by decide) rfl ?_
        obtain ⟨⟨r16, m15⟩, f17, gc95⟩ := rq_bind gc95
        try dsimp only at gc95
        refine ry_is (vs := [.long (a3.toInt64), .long 0, .long 3]) (T := []) (pc2 := 62) op170_59 (by decide) ms_147 (by decide) rfl rfl (Nat.le_of_ble_eq_true rfl) (Nat.le_of_ble_eq_true rfl) (mo_in_ok xs (by omega)  f17) rfl ?_
        show rn_R _ _ _ _ _ [.int r16] _ _ _
        refine ry_if_eq (tgt := 69) (pc2 := 65) op170_62 (by decide) (by decide) rfl (fun b18 => ?_) (fun b18 => ?_)
        · have gc95 := (if_pos b18).symm.trans gc95
          refine rx_ic (v := 0) (pc2 := 70) op170_69 (by decide) rfl ?_
          refine ry_go (tgt := 149) op170_70 (by decide) (by decide) ?_
          cases gc95
          exact c95 _ _ _
        · have gc95 := (if_neg b18).symm.trans gc95
          refine rx_ic (v := 1) (pc2 := 66) op170_65 (by decide) rfl ?_
          refine ry_go (tgt := 149) op170_66 (by decide) (by decide) ?_
          cases gc95
          exact c95 _ _ _
    · have gc95 := (if_neg b10).symm.trans gc95
      refine rx_p (L2 := [some (.ref 115), some (.int a1), some (.int a2), some (.int a3), some (.int a4), none, none, none]) (S2 := [.int a1]) (pc2 := 74) op170_73 rfl rfl ?_
      refine rx_ic (v := 2) (pc2 := 75) op170_74 (by decide) rfl ?_
      refine ry_ic_ne (tgt := 115) (pc2 := 78) op170_75 (by decide) (by decide) rfl (fun b19 => ?_) (fun b19 => ?_)
      · have gc95 := (if_pos b19).symm.trans gc95
        refine rx_p (L2 := [some (.ref 115), some (.int a1), some (.int a2), some (.int a3), some (.int a4), none, none, none]) (S2 := [.int a2]) (pc2 := 79) op170_78 rfl rfl ?_
        refine rx_p (L2 := [some (.ref 115), some (.int a1), some (.int a2), some (.int a3), some (.int a4), none, none, none]) (S2 := [.long (a2.toInt64)]) (pc2 := 80) op170_79 rfl rfl ?_
        refine rx_lc (v := 0) (pc2 := 81) op170_80 (by decide) rfl ?_
        refine rx_ld2 (v := 15) (pc2 := 84) op170_81 (by decide) rfl ?_
        obtain ⟨⟨r21, m20⟩, f22, gc95⟩ := rq_bind gc95
        try dsimp only at gc95
        refine ry_is (vs := [.long (a2.toInt64), .long 0, .long 15]) (T := []) (pc2 := 87) op170_84 (by decide) ms_147 (by decide) rfl rfl (Nat.le_of_ble_eq_true rfl) (Nat.le_of_ble_eq_true rfl) (mo_in_ok xs (by omega)  f22) rfl ?_
        show rn_R _ _ _ _ _ [.int r21] _ _ _
        refine ry_if_eq (tgt := 111) (pc2 := 90) op170_87 (by decide) (by decide) rfl (fun b23 => ?_) (fun b23 => ?_)
        · have gc95 := (if_pos b23).symm.trans gc95
          refine rx_ic (v := 0) (pc2 := 112) op170_111 (by decide) rfl ?_
          refine ry_go (tgt := 149) op170_112 (by decide) (by decide) ?_
          cases gc95
          exact c95 _ _ _
        · have gc95 := (if_neg b23).symm.trans gc95
          refine rx_p (L2 := [some (.ref 115), some (.int a1), some (.int a2), some (.int a3), some (.int a4), none, none, none]) (S2 := [.int a3]) (pc2 := 91) op170_90 rfl rfl ?_
          refine rx_p (L2 := [some (.ref 115), some (.int a1), some (.int a2), some (.int a3), some (.int a4), none, none, none]) (S2 := [.long (a3.toInt64)]) (pc2 := 92) op170_91 rfl rfl ?_
          refine rx_lc (v := 0) (pc2 := 93) op170_92 (by decide) rfl ?_
          refine rx_ld2 (v := 15) (pc2 := 96) op170_93 (by decide) rfl ?_
          obtain ⟨⟨r25, m24⟩, f26, gc95⟩ := rq_bind gc95
          try dsimp only at gc95
          refine ry_is (vs := [.long (a3.toInt64), .long 0, .long 15]) (T := []) (pc2 := 99) op170_96 (by decide) ms_147 (by decide) rfl rfl (Nat.le_of_ble_eq_true rfl) (Nat.le_of_ble_eq_true rfl) (mo_in_ok xs (by omega)  f26) rfl ?_
          show rn_R _ _ _ _ _ [.int r25] _ _ _
          refine ry_if_eq (tgt := 111) (pc2 := 102) op170_99 (by decide) (by decide) rfl (fun b27 => ?_) (fun b27 => ?_)
          · have gc95 := (if_pos b27).symm.trans gc95
            refine rx_ic (v := 0) (pc2 := 112) op170_111 (by decide) rfl ?_
            refine ry_go (tgt := 149) op170_112 (by decide) (by decide) ?_
            cases gc95
            exact c95 _ _ _
          · have gc95 := (if_neg b27).symm.trans gc95
            refine rx_p (L2 := [some (.ref 115), some (.int a1), some (.int a2), some (.int a3), some (.int a4), none, none, none]) (S2 := [.int a2]) (pc2 := 103) op170_102 rfl rfl ?_
            refine rx_p (L2 := [some (.ref 115), some (.int a1), some (.int a2), some (.int a3), some (.int a4), none, none, none]) (S2 := [.int a3, .int a2]) (pc2 := 104) op170_103 rfl rfl ?_
            refine ry_ic_eq (tgt := 111) (pc2 := 107) op170_104 (by decide) (by decide) rfl (fun b28 => ?_) (fun b28 => ?_)
            · have gc95 := (if_pos b28).symm.trans gc95
              refine rx_ic (v := 0) (pc2 := 112) op170_111 (by decide) rfl ?_
              refine ry_go (tgt := 149) op170_112 (by decide) (by decide) ?_
              cases gc95
              exact c95 _ _ _
            · have gc95 := (if_neg b28).symm.trans gc95
              refine rx_ic (v := 1) (pc2 := 108) op170_107 (by decide) rfl ?_
              refine ry_go (tgt := 149) op170_108 (by decide) (by decide) ?_
              cases gc95
              exact c95 _ _ _
      · have gc95 := (if_neg b19).symm.trans gc95
        refine rx_p (L2 := [some (.ref 115), some (.int a1), some (.int a2), some (.int a3), some (.int a4), none, none, none]) (S2 := [.int a1]) (pc2 := 116) op170_115 rfl rfl ?_
        refine rx_ic (v := 3) (pc2 := 117) op170_116 (by decide) rfl ?_
        refine ry_ic_ne (tgt := 148) (pc2 := 120) op170_117 (by decide) (by decide) rfl (fun b29 => ?_) (fun b29 => ?_)
        · have gc95 := (if_pos b29).symm.trans gc95
          refine rx_p (L2 := [some (.ref 115), some (.int a1), some (.int a2), some (.int a3), some (.int a4), none, none, none]) (S2 := [.int a2]) (pc2 := 121) op170_120 rfl rfl ?_
          refine rx_p (L2 := [some (.ref 115), some (.int a1), some (.int a2), some (.int a3), some (.int a4), none, none, none]) (S2 := [.long (a2.toInt64)]) (pc2 := 122) op170_121 rfl rfl ?_
          refine rx_lc (v := 0) (pc2 := 123) op170_122 (by decide) rfl ?_
          refine rx_ld2 (v := 3) (pc2 := 126) op170_123 (by decide) rfl ?_
          obtain ⟨⟨r31, m30⟩, f32, gc95⟩ := rq_bind gc95
          try dsimp only at gc95
          refine ry_is (vs := [.long (a2.toInt64), .long 0, .long 3]) (T := []) (pc2 := 129) op170_126 (by decide) ms_147 (by decide) rfl rfl (Nat.le_of_ble_eq_true rfl) (Nat.le_of_ble_eq_true rfl) (mo_in_ok xs (by omega)  f32) rfl ?_
          show rn_R _ _ _ _ _ [.int r31] _ _ _
          refine ry_if_eq (tgt := 148) (pc2 := 132) op170_129 (by decide) (by decide) rfl (fun b33 => ?_) (fun b33 => ?_)
          · have gc95 := (if_pos b33).symm.trans gc95
            refine rx_ic (v := 0) (pc2 := 149) op170_148 (by decide) rfl ?_
            cases gc95
            exact c95 _ _ _
          · have gc95 := (if_neg b33).symm.trans gc95
            refine rx_p (L2 := [some (.ref 115), some (.int a1), some (.int a2), some (.int a3), some (.int a4), none, none, none]) (S2 := [.int a3]) (pc2 := 133) op170_132 rfl rfl ?_
            refine rx_p (L2 := [some (.ref 115), some (.int a1), some (.int a2), some (.int a3), some (.int a4), none, none, none]) (S2 := [.long (a3.toInt64)]) (pc2 := 134) op170_133 rfl rfl ?_
            refine rx_lc (v := 0) (pc2 := 135) op170_134 (by decide) rfl ?_
            refine rx_ld2 (v := 3) (pc2 := 138) op170_135 (by decide) rfl ?_
            obtain ⟨⟨r35, m34⟩, f36, gc95⟩ := rq_bind gc95
            try dsimp only at gc95
            refine ry_is (vs := [.long (a3.toInt64), .long 0, .long 3]) (T := []) (pc2 := 141) op170_138 (by decide) ms_147 (by decide) rfl rfl (Nat.le_of_ble_eq_true rfl) (Nat.le_of_ble_eq_true rfl) (mo_in_ok xs (by omega)  f36) rfl ?_
            show rn_R _ _ _ _ _ [.int r35] _ _ _
            refine ry_if_eq (tgt := 148) (pc2 := 144) op170_141 (by decide) (by decide) rfl (fun b37 => ?_) (fun b37 => ?_)
            · have gc95 := (if_pos b37).symm.trans gc95
              refine rx_ic (v := 0) (pc2 := 149) op170_148 (by decide) rfl ?_
              cases gc95
              exact c95 _ _ _
            · have gc95 := (if_neg b37).symm.trans gc95
              refine rx_ic (v := 1) (pc2 := 145) op170_144 (by decide) rfl ?_
              refine ry_go (tgt := 149) op170_145 (by decide) (by decide) ?_
              cases gc95
              exact c95 _ _ _
        · have gc95 := (if_neg b29).symm.trans gc95
          refine rx_ic (v := 0) (pc2 := 149) op170_148 (by decide) rfl ?_
          cases gc95
          exact c95 _ _ _
