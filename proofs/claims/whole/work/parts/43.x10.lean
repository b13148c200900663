/-! mo_best -/
theorem op206_0 : rn_op 206 0 = some (.iload_n 1, 1, 0, 0, 0) := by decide +kernel
theorem op206_1 : rn_op 206 1 = some (.i2l, 1, 0, 0, 0) := by decide +kernel
theorem op206_2 : rn_op 206 2 = some (.lconst 0, 1, 0, 0, 0) := by decide +kernel
theorem op206_3 : rn_op 206 3 = some (.ldc2_w 325, 3, 12, 0, 0) := by decide +kernel
theorem op206_6 : rn_op 206 6 = some (.invokestatic 121, 3, 147, 3, 0) := by decide +kernel
theorem op206_9 : rn_op 206 9 = some (.ifCond .ne 5, 3, 0, 0, 0) := by decide +kernel
theorem op206_12 : rn_op 206 12 = some (.iconst (-1), 1, 0, 0, 0) := by decide +kernel
theorem op206_13 : rn_op 206 13 = some (.ireturn, 1, 0, 0, 0) := by decide +kernel
theorem op206_14 : rn_op 206 14 = some (.aload_n 0, 1, 0, 0, 0) := by decide +kernel
theorem op206_15 : rn_op 206 15 = some (.getfield 7, 3, 11, 0, 3) := by decide +kernel
theorem op206_18 : rn_op 206 18 = some (.bipush 11, 2, 0, 0, 0) := by decide +kernel
theorem op206_20 : rn_op 206 20 = some (.iaload, 1, 0, 0, 0) := by decide +kernel
theorem op206_21 : rn_op 206 21 = some (.ifCond .ne 6, 3, 0, 0, 0) := by decide +kernel
theorem op206_24 : rn_op 206 24 = some (.bipush (-2), 2, 0, 0, 0) := by decide +kernel
theorem op206_26 : rn_op 206 26 = some (.ireturn, 1, 0, 0, 0) := by decide +kernel
theorem op206_27 : rn_op 206 27 = some (.iload_n 1, 1, 0, 0, 0) := by decide +kernel
theorem op206_28 : rn_op 206 28 = some (.aload_n 0, 1, 0, 0, 0) := by decide +kernel
theorem op206_29 : rn_op 206 29 = some (.invokevirtual 167, 3, 155, 1, 11) := by decide +kernel
theorem op206_32 : rn_op 206 32 = some (.if_icmp .le 7, 3, 0, 0, 0) := by decide +kernel
theorem op206_35 : rn_op 206 35 = some (.iconst (-1), 1, 0, 0, 0) := by decide +kernel
theorem op206_36 : rn_op 206 36 = some (.goto 8, 3, 0, 0, 0) := by decide +kernel
theorem op206_39 : rn_op 206 39 = some (.aload_n 0, 1, 0, 0, 0) := by decide +kernel
theorem op206_40 : rn_op 206 40 = some (.iload_n 1, 1, 0, 0, 0) := by decide +kernel
theorem op206_41 : rn_op 206 41 = some (.invokevirtual 327, 3, 207, 2, 11) := by decide +kernel
theorem op206_44 : rn_op 206 44 = some (.ireturn, 1, 0, 0, 0) := by decide +kernel
def mo_best (n : Nat) (a1 : Int32) (m : rn_Mem) : Option (Int32 × rn_Mem) :=
  (mo_in n (a1.toInt64) 0 12 m).bind fun (r2, m1) =>
  if r2 = 0 then
    some ((-1), m1)
  else
    if (m1.1 116 11) = 0 then
      some ((-2), m1)
    else
      (mo_size n m1).bind fun (r7, m6) =>
      if r7 < a1 then
        some ((-1), m6)
      else
        (mo_bestFrom n a1 m6).bind fun (r11, m10) =>
        some (r11, m10)
set_option maxHeartbeats 4000000 in
set_option maxRecDepth 20000 in
theorem mo_best_ok (xs : List Int32) {d : Nat} (hd : 5 ≤ d) {n : Nat} {a1 : Int32} {m mO : rn_Mem} {rO : Int32} (h : mo_best n a1 m = some (rO, mO)) : rn_R xs d 206 0 (rn_ent 2 [.ref 115, .int a1]) [] (rn_SH, m) (some (.int rO)) (rn_SH, mO) := by
  obtain ⟨d, rfl⟩ : ∃ e, d = e + 1 := ⟨d - 1, by omega⟩
  unfold mo_best at h
  show rn_R xs (d + 1) 206 0 [some (.ref 115), some (.int a1)] [] (rn_SH, m) (some (.int rO)) (rn_SH, mO)
  refine rx_p (L2 := [some (.ref 115), some (.int a1)]) (S2 := [.int a1]) (pc2 := 1) op206_0 rfl rfl ?_
  refine rx_p (L2 := [some (.ref 115), some (.int a1)]) (S2 := [.long (a1.toInt64)]) (pc2 := 2) op206_1 rfl rfl ?_
  refine rx_lc (v := 0) (pc2 := 3) op206_2 (by decide) rfl ?_
  refine rx_ld2 (v := 12) (pc2 := 6) op206_3 (by decide) rfl ?_
  obtain ⟨⟨r2, m1⟩, f3, h⟩ := rq_bind h
  try dsimp only at h
  refine ry_is (vs := [.long (a1.toInt64), .long 0, .long 12]) (T := []) (pc2 := 9) op206_6 (by decide) ms_147 (by decide) rfl rfl (Nat.le_of_ble_eq_true rfl) (Nat.le_of_ble_eq_true rfl) (mo_in_ok xs (by omega)  f3) rfl ?_
  show rn_R _ _ _ _ _ [.int r2] _ _ _
  refine ry_if_ne (tgt := 14) (pc2 := 12) op206_9 (by decide) (by decide) rfl (fun b4 => ?_) (fun b4 => ?_)
  · have h := (if_pos b4).symm.trans h
    refine rx_ic (v := (-1)) (pc2 := 13) op206_12 (by decide) rfl ?_
    obtain ⟨rfl, rfl⟩ := rq_ret h
    exact ry_ri op206_13 ms_206 rfl
  · have h := (if_neg b4).symm.trans h
    refine rx_p (L2 := [some (.ref 115), some (.int a1)]) (S2 := [.ref 115]) (pc2 := 15) op206_14 rfl rfl ?_
    refine rx_gf (v := .ref 116) (pc2 := 18) op206_15 sp_115 rfl rfl rfl ?_
    refine rx_bp (v := 11) (pc2 := 20) op206_18 (by decide) rfl ?_
    refine rx_ia (j := 11) (pc2 := 21) op206_20 (rn_shlt sp_116) sp_116 (by decide) (by decide) rfl ?_
    refine ry_if_ne (tgt := 27) (pc2 := 24) op206_21 (by decide) (by decide) rfl (fun b5 => ?_) (fun b5 => ?_)
    · have h := (if_pos b5).symm.trans h
      refine rx_bp (v := (-2)) (pc2 := 26) op206_24 (by decide) rfl ?_
      obtain ⟨rfl, rfl⟩ := rq_ret h
      exact ry_ri op206_26 ms_206 rfl
    · have h := (if_neg b5).symm.trans h
      refine rx_p (L2 := [some (.ref 115), some (.int a1)]) (S2 := [.int a1]) (pc2 := 28) op206_27 rfl rfl ?_
      refine rx_p (L2 := [some (.ref 115), some (.int a1)]) (S2 := [.ref 115, .int a1]) (pc2 := 29) op206_28 rfl rfl ?_
      obtain ⟨⟨r7, m6⟩, f8, h⟩ := rq_bind h
      try dsimp only at h
      refine ry_iv (p := 115) (vs := []) (T := [.int a1]) (pc2 := 32) op206_29 ms_155 (by decide) rfl rfl (Nat.le_of_ble_eq_true rfl) (Nat.le_of_ble_eq_true rfl) sp_115 (mo_size_ok xs (by omega)  f8) rfl ?_
      show rn_R _ _ _ _ _ [.int r7, .int a1] _ _ _
      refine ry_ic_le (tgt := 39) (pc2 := 35) op206_32 (by decide) (by decide) rfl (fun b9 => ?_) (fun b9 => ?_)
      · have h := (if_pos b9).symm.trans h
        refine rx_ic (v := (-1)) (pc2 := 36) op206_35 (by decide) rfl ?_
        refine ry_go (tgt := 44) op206_36 (by decide) (by decide) ?_
        obtain ⟨rfl, rfl⟩ := rq_ret h
        exact ry_ri op206_44 ms_206 rfl
      · have h := (if_neg b9).symm.trans h
        refine rx_p (L2 := [some (.ref 115), some (.int a1)]) (S2 := [.ref 115]) (pc2 := 40) op206_39 rfl rfl ?_
        refine rx_p (L2 := [some (.ref 115), some (.int a1)]) (S2 := [.int a1, .ref 115]) (pc2 := 41) op206_40 rfl rfl ?_
        obtain ⟨⟨r11, m10⟩, f12, h⟩ := rq_bind h
        try dsimp only at h
        refine ry_iv (p := 115) (vs := [.int a1]) (T := []) (pc2 := 44) op206_41 ms_207 (by decide) rfl rfl (Nat.le_of_ble_eq_true rfl) (Nat.le_of_ble_eq_true rfl) sp_115 (mo_bestFrom_ok xs (by omega)  f12) rfl ?_
        show rn_R _ _ _ _ _ [.int r11] _ _ _
        obtain ⟨rfl, rfl⟩ := rq_ret h
        exact ry_ri op206_44 ms_206 rfl
/-! mo_worthAt -/
theorem op211_0 : rn_op 211 0 = some (.aload_n 0, 1, 0, 0, 0) := by decide +kernel
theorem op211_1 : rn_op 211 1 = some (.iload_n 1, 1, 0, 0, 0) := by decide +kernel
theorem op211_2 : rn_op 211 2 = some (.invokevirtual 327, 3, 207, 2, 11) := by decide +kernel
theorem op211_5 : rn_op 211 5 = some (.istore_n 2, 1, 0, 0, 0) := by decide +kernel
theorem op211_6 : rn_op 211 6 = some (.aload_n 0, 1, 0, 0, 0) := by decide +kernel
theorem op211_7 : rn_op 211 7 = some (.invokevirtual 308, 3, 159, 1, 11) := by decide +kernel
theorem op211_10 : rn_op 211 10 = some (.iconst 0, 1, 0, 0, 0) := by decide +kernel
theorem op211_11 : rn_op 211 11 = some (.istore_n 3, 1, 0, 0, 0) := by decide +kernel
theorem op211_12 : rn_op 211 12 = some (.iconst 0, 1, 0, 0, 0) := by decide +kernel
theorem op211_13 : rn_op 211 13 = some (.istore 4, 2, 0, 0, 0) := by decide +kernel
theorem op211_15 : rn_op 211 15 = some (.iload 4, 2, 0, 0, 0) := by decide +kernel
theorem op211_17 : rn_op 211 17 = some (.iconst 1, 1, 0, 0, 0) := by decide +kernel
theorem op211_18 : rn_op 211 18 = some (.iadd, 1, 0, 0, 0) := by decide +kernel
theorem op211_19 : rn_op 211 19 = some (.aload_n 0, 1, 0, 0, 0) := by decide +kernel
theorem op211_20 : rn_op 211 20 = some (.getfield 7, 3, 11, 0, 3) := by decide +kernel
theorem op211_23 : rn_op 211 23 = some (.iconst 1, 1, 0, 0, 0) := by decide +kernel
theorem op211_24 : rn_op 211 24 = some (.iaload, 1, 0, 0, 0) := by decide +kernel
theorem op211_25 : rn_op 211 25 = some (.imul, 1, 0, 0, 0) := by decide +kernel
theorem op211_26 : rn_op 211 26 = some (.iload_n 1, 1, 0, 0, 0) := by decide +kernel
theorem op211_27 : rn_op 211 27 = some (.if_icmp .gt 29, 3, 0, 0, 0) := by decide +kernel
theorem op211_30 : rn_op 211 30 = some (.iload_n 3, 1, 0, 0, 0) := by decide +kernel
theorem op211_31 : rn_op 211 31 = some (.aload_n 0, 1, 0, 0, 0) := by decide +kernel
theorem op211_32 : rn_op 211 32 = some (.getfield 82, 3, 11, 37, 3) := by decide +kernel
theorem op211_35 : rn_op 211 35 = some (.iload 4, 2, 0, 0, 0) := by decide +kernel
theorem op211_37 : rn_op 211 37 = some (.iaload, 1, 0, 0, 0) := by decide +kernel
theorem op211_38 : rn_op 211 38 = some (.iconst 2, 1, 0, 0, 0) := by decide +kernel
theorem op211_39 : rn_op 211 39 = some (.irem, 1, 0, 0, 0) := by decide +kernel
theorem op211_40 : rn_op 211 40 = some (.ifCond .ne 7, 3, 0, 0, 0) := by decide +kernel
theorem op211_43 : rn_op 211 43 = some (.iconst 1, 1, 0, 0, 0) := by decide +kernel
theorem op211_44 : rn_op 211 44 = some (.goto 4, 3, 0, 0, 0) := by decide +kernel
theorem op211_47 : rn_op 211 47 = some (.iconst 0, 1, 0, 0, 0) := by decide +kernel
theorem op211_48 : rn_op 211 48 = some (.iadd, 1, 0, 0, 0) := by decide +kernel
theorem op211_49 : rn_op 211 49 = some (.istore_n 3, 1, 0, 0, 0) := by decide +kernel
theorem op211_50 : rn_op 211 50 = some (.iinc 4 1, 3, 0, 0, 0) := by decide +kernel
theorem op211_53 : rn_op 211 53 = some (.goto (-38), 3, 0, 0, 0) := by decide +kernel
theorem op211_56 : rn_op 211 56 = some (.iload_n 3, 1, 0, 0, 0) := by decide +kernel
theorem op211_57 : rn_op 211 57 = some (.iload_n 2, 1, 0, 0, 0) := by decide +kernel
theorem op211_58 : rn_op 211 58 = some (.iadd, 1, 0, 0, 0) := by decide +kernel
theorem op211_59 : rn_op 211 59 = some (.ireturn, 1, 0, 0, 0) := by decide +kernel
def mo_worthAt_l15 (a1 : Int32) (a2 : Int32) : Nat → Int32 → Int32 → rn_Mem → Option (Int32 × rn_Mem)
  | 0, _, _, _ => none
  | n + 1, a3, a4, m =>
    if a1 < ((a4 + 1) * (m.1 116 1)) then
      some (a3, m)
    else
      if rn_in a4 4 = true then
        (show Option (Int32) from
          if (rn_rem (m.1 140 a4.toNatClampNeg) 2) = 0 then
            some (1)
          else
            some (0)).bind fun x10 =>
        (some (a3 + x10)).bind fun (x11 : Int32) =>
        (some (a4 + 1)).bind fun (x12 : Int32) =>
        mo_worthAt_l15 a1 a2 n x11 x12 m
      else none
def mo_worthAt (n : Nat) (a1 : Int32) (m : rn_Mem) : Option (Int32 × rn_Mem) :=
  (mo_bestFrom n a1 m).bind fun (r2, m1) =>
  (mo_takeRow n m1).bind fun m4 =>
  (mo_worthAt_l15 a1 r2 n 0 0 m4).bind fun (x17, m14) =>
  some (x17 + r2, m14)
set_option maxHeartbeats 4000000 in
set_option maxRecDepth 20000 in
theorem mo_worthAt_l15_ok (xs : List Int32) {d : Nat} (hd : 5 ≤ d + 1) {a1 : Int32} {a2 : Int32} {r : Option Value} {τ : rn_H} {out : Int32 × rn_Mem} (hr : ∀ (z3 : Int32) (mO : rn_Mem), out = (z3, mO) → ∀ (o0 o1 o4 : Option Value), rn_R xs (d + 1) 211 56 [o0, o1, some (.int a2), some (.int z3), o4] [] (rn_SH, mO) r τ) : ∀ (n : Nat) (a3 : Int32) (a4 : Int32) (m : rn_Mem), mo_worthAt_l15 a1 a2 n a3 a4 m = some out → rn_R xs (d + 1) 211 15 [some (.ref 115), some (.int a1), some (.int a2), some (.int a3), some (.int a4)] [] (rn_SH, m) r τ := by
  intro n
  induction n with
  | zero =>
    intro _ _ _ h
    cases h
  | succ n ih =>
    intro a3 a4 m h
    unfold mo_worthAt_l15 at h
    try dsimp only at h
    refine rx_p (L2 := [some (.ref 115), some (.int a1), some (.int a2), some (.int a3), some (.int a4)]) (S2 := [.int a4]) (pc2 := 17) op211_15 rfl rfl ?_
    refine rx_ic (v := 1) (pc2 := 18) op211_17 (by decide) rfl ?_
    refine rx_p (L2 := [some (.ref 115), some (.int a1), some (.int a2), some (.int a3), some (.int a4)]) (S2 := [.int (a4 + 1)]) (pc2 := 19) op211_18 rfl rfl ?_
    refine rx_p (L2 := [some (.ref 115), some (.int a1), some (.int a2), some (.int a3), some (.int a4)]) (S2 := [.ref 115, .int (a4 + 1)]) (pc2 := 20) op211_19 rfl rfl ?_
    refine rx_gf (v := .ref 116) (pc2 := 23) op211_20 sp_115 rfl rfl rfl ?_
    refine rx_ic (v := 1) (pc2 := 24) op211_23 (by decide) rfl ?_
    refine rx_ia (j := 1) (pc2 := 25) op211_24 (rn_shlt sp_116) sp_116 (by decide) (by decide) rfl ?_
    refine rx_p (L2 := [some (.ref 115), some (.int a1), some (.int a2), some (.int a3), some (.int a4)]) (S2 := [.int ((a4 + 1) * (m.1 116 1))]) (pc2 := 26) op211_25 rfl rfl ?_
    refine rx_p (L2 := [some (.ref 115), some (.int a1), some (.int a2), some (.int a3), some (.int a4)]) (S2 := [.int a1, .int ((a4 + 1) * (m.1 116 1))]) (pc2 := 27) op211_26 rfl rfl ?_
    refine ry_ic_gt (tgt := 56) (pc2 := 30) op211_27 (by decide) (by decide) rfl (fun b6 => ?_) (fun b6 => ?_)
    · have h := (if_pos b6).symm.trans h
      cases h
      exact hr _ _ rfl _ _ _
    · have h := (if_neg b6).symm.trans h
      refine rx_p (L2 := [some (.ref 115), some (.int a1), some (.int a2), some (.int a3), some (.int a4)]) (S2 := [.int a3]) (pc2 := 31) op211_30 rfl rfl ?_
      refine rx_p (L2 := [some (.ref 115), some (.int a1), some (.int a2), some (.int a3), some (.int a4)]) (S2 := [.ref 115, .int a3]) (pc2 := 32) op211_31 rfl rfl ?_
      refine rx_gf (v := .ref 140) (pc2 := 35) op211_32 sp_115 rfl rfl rfl ?_
      refine rx_p (L2 := [some (.ref 115), some (.int a1), some (.int a2), some (.int a3), some (.int a4)]) (S2 := [.int a4, .ref 140, .int a3]) (pc2 := 37) op211_35 rfl rfl ?_
      obtain ⟨k7, h⟩ := rq_chk h
      refine rx_ia (pc2 := 38) op211_37 (rn_shlt sp_140) sp_140 k7 rfl rfl ?_
      refine rx_ic (v := 2) (pc2 := 39) op211_38 (by decide) rfl ?_
      refine rx_rem (v := rn_rem (m.1 140 a4.toNatClampNeg) 2) (pc2 := 40) op211_39 (by decide) rfl rfl ?_
      obtain ⟨x10, gc13, h⟩ := rq_bind h
      try dsimp only at h
      have c13 : ∀ (o9 : Option Value), rn_R xs (d + 1) 211 48 [some (.ref 115), some (.int a1), some (.int a2), o9, some (.int a4)] [.int x10, .int a3] (rn_SH, m) r τ := by
        intro o9
        refine rx_p (L2 := [some (.ref 115), some (.int a1), some (.int a2), o9, some (.int a4)]) (S2 := [.int (a3 + x10)]) (pc2 := 49) op211_48 rfl rfl ?_
        obtain ⟨x11, ex11, h⟩ := rq_bv h
        refine rx_s (v := x11) (L2 := [some (.ref 115), some (.int a1), some (.int a2), some (.int x11), some (.int a4)]) (pc2 := 50) op211_49 ex11 rfl rfl ?_
        obtain ⟨x12, ex12, h⟩ := rq_bv h
        refine rx_inc (w := 1) (v := x12) (L2 := [some (.ref 115), some (.int a1), some (.int a2), some (.int x11), some (.int x12)]) (pc2 := 53) op211_50 rfl (by decide) ex12 rfl rfl ?_
        refine ry_go (tgt := 15) op211_53 (by decide) (by decide) ?_
        exact ih _ _ _ h
      refine ry_if_ne (tgt := 47) (pc2 := 43) op211_40 (by decide) (by decide) rfl (fun b8 => ?_) (fun b8 => ?_)
      · have gc13 := (if_pos b8).symm.trans gc13
        refine rx_ic (v := 1) (pc2 := 44) op211_43 (by decide) rfl ?_
        refine ry_go (tgt := 48) op211_44 (by decide) (by decide) ?_
        cases gc13
        exact c13 _
      · have gc13 := (if_neg b8).symm.trans gc13
        refine rx_ic (v := 0) (pc2 := 48) op211_47 (by decide) rfl ?_
        cases gc13
        exact c13 _
set_option maxHeartbeats 4000000 in
set_option maxRecDepth 20000 in
theorem mo_worthAt_ok (xs : List Int32) {d : Nat} (hd : 5 ≤ d) {n : Nat} {a1 : Int32} {m mO : rn_Mem} {rO : Int32} (h : mo_worthAt n a1 m = some (rO, mO)) : rn_R xs d 211 0 (rn_ent 5 [.ref 115, .int a1]) [] (rn_SH, m) (some (.int rO)) (rn_SH, mO) := by
  obtain ⟨d, rfl⟩ : ∃ e, d = e + 1 := ⟨d - 1, by omega⟩
  unfold mo_worthAt at h
  show rn_R xs (d + 1) 211 0 [some (.ref 115), some (.int a1), none, none, none] [] (rn_SH, m) (some (.int rO)) (rn_SH, mO)
  refine rx_p (L2 := [some (.ref 115), some (.int a1), none, none, none]) (S2 := [.ref 115]) (pc2 := 1) op211_0 rfl rfl ?_
  refine rx_p (L2 := [some (.ref 115), some (.int a1), none, none, none]) (S2 := [.int a1, .ref 115]) (pc2 := 2) op211_1 rfl rfl ?_
  obtain ⟨⟨r2, m1⟩, f3, h⟩ := rq_bind h
  try dsimp only at h
  refine ry_iv (p := 115) (vs := [.int a1]) (T := []) (pc2 := 5) op211_2 ms_207 (by decide) rfl rfl (Nat.le_of_ble_eq_true rfl) (Nat.le_of_ble_eq_true rfl) sp_115 (mo_bestFrom_ok xs (by omega)  f3) rfl ?_
  show rn_R _ _ _ _ _ [.int r2] _ _ _
  refine rx_s (L2 := [some (.ref 115), some (.int a1), some (.int r2), none, none]) (pc2 := 6) op211_5 rfl rfl rfl ?_
  refine rx_p (L2 := [some (.ref 115), some (.int a1), some (.int r2), none, none]) (S2 := [.ref 115]) (pc2 := 7) op211_6 rfl rfl ?_
  obtain ⟨m4, f5, h⟩ := rq_bind h
  try dsimp only at h
  refine ry_iv (p := 115) (vs := []) (T := []) (pc2 := 10) op211_7 ms_159 (by decide) rfl rfl (Nat.le_of_ble_eq_true rfl) (Nat.le_of_ble_eq_true rfl) sp_115 (mo_takeRow_ok xs (by omega)  f5) rfl ?_
  show rn_R _ _ _ _ _ [] _ _ _
  refine rx_ic (v := 0) (pc2 := 11) op211_10 (by decide) rfl ?_
  refine rx_s (L2 := [some (.ref 115), some (.int a1), some (.int r2), some (.int 0), none]) (pc2 := 12) op211_11 rfl rfl rfl ?_
  refine rx_ic (v := 0) (pc2 := 13) op211_12 (by decide) rfl ?_
  refine rx_s (L2 := [some (.ref 115), some (.int a1), some (.int r2), some (.int 0), some (.int 0)]) (pc2 := 15) op211_13 rfl rfl rfl ?_
  obtain ⟨wf19, f19, h⟩ := rq_bind h
  refine mo_worthAt_l15_ok xs hd (fun x17 m14 eq => ?_) _ _ _ _  f19
  subst eq
  try dsimp only at h
  intro o15 o16 o18
  refine rx_p (L2 := [o15, o16, some (.int r2), some (.int x17), o18]) (S2 := [.int x17]) (pc2 := 57) op211_56 rfl rfl ?_
  refine rx_p (L2 := [o15, o16, some (.int r2), some (.int x17), o18]) (S2 := [.int r2, .int x17]) (pc2 := 58) op211_57 rfl rfl ?_
  refine rx_p (L2 := [o15, o16, some (.int r2), some (.int x17), o18]) (S2 := [.int (x17 + r2)]) (pc2 := 59) op211_58 rfl rfl ?_
  obtain ⟨rfl, rfl⟩ := rq_ret h
  exact ry_ri op211_59 ms_211 rfl
/-! mo_falls -/
theorem op210_0 : rn_op 210 0 = some (.iload_n 1, 1, 0, 0, 0) := by decide +kernel
theorem op210_1 : rn_op 210 1 = some (.i2l, 1, 0, 0, 0) := by decide +kernel
theorem op210_2 : rn_op 210 2 = some (.lconst 0, 1, 0, 0, 0) := by decide +kernel
theorem op210_3 : rn_op 210 3 = some (.ldc2_w 180, 3, 11, 0, 0) := by decide +kernel
theorem op210_6 : rn_op 210 6 = some (.invokestatic 121, 3, 147, 3, 0) := by decide +kernel
theorem op210_9 : rn_op 210 9 = some (.ifCond .ne 5, 3, 0, 0, 0) := by decide +kernel
theorem op210_12 : rn_op 210 12 = some (.iconst (-1), 1, 0, 0, 0) := by decide +kernel
theorem op210_13 : rn_op 210 13 = some (.ireturn, 1, 0, 0, 0) := by decide +kernel
theorem op210_14 : rn_op 210 14 = some (.aload_n 0, 1, 0, 0, 0) := by decide +kernel
theorem op210_15 : rn_op 210 15 = some (.getfield 7, 3, 11, 0, 3) := by decide +kernel
theorem op210_18 : rn_op 210 18 = some (.bipush 11, 2, 0, 0, 0) := by decide +kernel
theorem op210_20 : rn_op 210 20 = some (.iaload, 1, 0, 0, 0) := by decide +kernel
theorem op210_21 : rn_op 210 21 = some (.ifCond .ne 6, 3, 0, 0, 0) := by decide +kernel
theorem op210_24 : rn_op 210 24 = some (.bipush (-2), 2, 0, 0, 0) := by decide +kernel
theorem op210_26 : rn_op 210 26 = some (.ireturn, 1, 0, 0, 0) := by decide +kernel
theorem op210_27 : rn_op 210 27 = some (.iload_n 1, 1, 0, 0, 0) := by decide +kernel
theorem op210_28 : rn_op 210 28 = some (.aload_n 0, 1, 0, 0, 0) := by decide +kernel
theorem op210_29 : rn_op 210 29 = some (.invokevirtual 167, 3, 155, 1, 11) := by decide +kernel
theorem op210_32 : rn_op 210 32 = some (.if_icmp .lt 5, 3, 0, 0, 0) := by decide +kernel
theorem op210_35 : rn_op 210 35 = some (.iconst (-1), 1, 0, 0, 0) := by decide +kernel
theorem op210_36 : rn_op 210 36 = some (.ireturn, 1, 0, 0, 0) := by decide +kernel
theorem op210_37 : rn_op 210 37 = some (.aload_n 0, 1, 0, 0, 0) := by decide +kernel
theorem op210_38 : rn_op 210 38 = some (.iload_n 1, 1, 0, 0, 0) := by decide +kernel
theorem op210_39 : rn_op 210 39 = some (.invokevirtual 330, 3, 211, 2, 11) := by decide +kernel
theorem op210_42 : rn_op 210 42 = some (.istore_n 2, 1, 0, 0, 0) := by decide +kernel
theorem op210_43 : rn_op 210 43 = some (.aload_n 0, 1, 0, 0, 0) := by decide +kernel
theorem op210_44 : rn_op 210 44 = some (.iload_n 1, 1, 0, 0, 0) := by decide +kernel
theorem op210_45 : rn_op 210 45 = some (.iconst 1, 1, 0, 0, 0) := by decide +kernel
theorem op210_46 : rn_op 210 46 = some (.iadd, 1, 0, 0, 0) := by decide +kernel
theorem op210_47 : rn_op 210 47 = some (.invokevirtual 330, 3, 211, 2, 11) := by decide +kernel
theorem op210_50 : rn_op 210 50 = some (.istore_n 3, 1, 0, 0, 0) := by decide +kernel
theorem op210_51 : rn_op 210 51 = some (.aload_n 0, 1, 0, 0, 0) := by decide +kernel
theorem op210_52 : rn_op 210 52 = some (.invokevirtual 308, 3, 159, 1, 11) := by decide +kernel
theorem op210_55 : rn_op 210 55 = some (.aload_n 0, 1, 0, 0, 0) := by decide +kernel
theorem op210_56 : rn_op 210 56 = some (.iload_n 1, 1, 0, 0, 0) := by decide +kernel
theorem op210_57 : rn_op 210 57 = some (.invokevirtual 285, 3, 200, 2, 11) := by decide +kernel
theorem op210_60 : rn_op 210 60 = some (.iconst 2, 1, 0, 0, 0) := by decide +kernel
theorem op210_61 : rn_op 210 61 = some (.irem, 1, 0, 0, 0) := by decide +kernel
theorem op210_62 : rn_op 210 62 = some (.ifCond .ne 9, 3, 0, 0, 0) := by decide +kernel
theorem op210_65 : rn_op 210 65 = some (.iload_n 2, 1, 0, 0, 0) := by decide +kernel
theorem op210_66 : rn_op 210 66 = some (.iload_n 3, 1, 0, 0, 0) := by decide +kernel
theorem op210_67 : rn_op 210 67 = some (.isub, 1, 0, 0, 0) := by decide +kernel
theorem op210_68 : rn_op 210 68 = some (.goto 6, 3, 0, 0, 0) := by decide +kernel
theorem op210_71 : rn_op 210 71 = some (.iload_n 3, 1, 0, 0, 0) := by decide +kernel
theorem op210_72 : rn_op 210 72 = some (.iload_n 2, 1, 0, 0, 0) := by decide +kernel
theorem op210_73 : rn_op 210 73 = some (.isub, 1, 0, 0, 0) := by decide +kernel
theorem op210_74 : rn_op 210 74 = some (.ireturn, 1, 0, 0, 0) := by decide +kernel
def mo_falls (n : Nat) (a1 : Int32) (m : rn_Mem) : Option (Int32 × rn_Mem) :=
  (mo_in n (a1.toInt64) 0 11 m).bind fun (r2, m1) =>
  if r2 = 0 then
    some ((-1), m1)
  else
    if (m1.1 116 11) = 0 then
      some ((-2), m1)
    else
      (mo_size n m1).bind fun (r7, m6) =>
      if a1 < r7 then
        (mo_worthAt n a1 m6).bind fun (r11, m10) =>
        (mo_worthAt n (a1 + 1) m10).bind fun (r14, m13) =>
        (mo_takeRow n m13).bind fun m16 =>
        (mo_playerAt n a1 m16).bind fun (r19, m18) =>
        if (rn_rem r19 2) = 0 then
          some (r11 - r14, m18)
        else
          some (r14 - r11, m18)
      else
        some ((-1), m6)
set_option maxHeartbeats 4000000 in
set_option maxRecDepth 20000 in
theorem mo_falls_ok (xs : List Int32) {d : Nat} (hd : 6 ≤ d) {n : Nat} {a1 : Int32} {m mO : rn_Mem} {rO : Int32} (h : mo_falls n a1 m = some (rO, mO)) : rn_R xs d 210 0 (rn_ent 4 [.ref 115, .int a1]) [] (rn_SH, m) (some (.int rO)) (rn_SH, mO) := by
  obtain ⟨d, rfl⟩ : ∃ e, d = e + 1 := ⟨d - 1, by omega⟩
  unfold mo_falls at h
  show rn_R xs (d + 1) 210 0 [some (.ref 115), some (.int a1), none, none] [] (rn_SH, m) (some (.int rO)) (rn_SH, mO)
  refine rx_p (L2 := [some (.ref 115), some (.int a1), none, none]) (S2 := [.int a1]) (pc2 := 1) op210_0 rfl rfl ?_
  refine rx_p (L2 := [some (.ref 115), some (.int a1), none, none]) (S2 := [.long (a1.toInt64)]) (pc2 := 2) op210_1 rfl rfl ?_
  refine rx_lc (v := 0) (pc2 := 3) op210_2 (by decide) rfl ?_
  refine rx_ld2 (v := 11) (pc2 := 6) op210_3 (by decide) rfl ?_
  obtain ⟨⟨r2, m1⟩, f3, h⟩ := rq_bind h
  try dsimp only at h
  refine ry_is (vs := [.long (a1.toInt64), .long 0, .long 11]) (T := []) (pc2 := 9) op210_6 (by decide) ms_147 (by decide) rfl rfl (Nat.le_of_ble_eq_true rfl) (Nat.le_of_ble_eq_true rfl) (mo_in_ok xs (by omega)  f3) rfl ?_
  show rn_R _ _ _ _ _ [.int r2] _ _ _
  refine ry_if_ne (tgt := 14) (pc2 := 12) op210_9 (by decide) (by decide) rfl (fun b4 => ?_) (fun b4 => ?_)
  · have h := (if_pos b4).symm.trans h
    refine rx_ic (v := (-1)) (pc2 := 13) op210_12 (by decide) rfl ?_
    obtain ⟨rfl, rfl⟩ := rq_ret h
    exact ry_ri op210_13 ms_210 rfl
  · have h := (if_neg b4).symm.trans h
    refine rx_p (L2 := [some (.ref 115), some (.int a1), none, none]) (S2 := [.ref 115]) (pc2 := 15) op210_14 rfl rfl ?_
    refine rx_gf (v := .ref 116) (pc2 := 18) op210_15 sp_115 rfl rfl rfl ?_
    refine rx_bp (v := 11) (pc2 := 20) op210_18 (by decide) rfl ?_
    refine rx_ia (j := 11) (pc2 := 21) op210_20 (rn_shlt sp_116) sp_116 (by decide) (by decide) rfl ?_
    refine ry_if_ne (tgt := 27) (pc2 := 24) op210_21 (by decide) (by decide) rfl (fun b5 => ?_) (fun b5 => ?_)
    · have h := (if_pos b5).symm.trans h
      refine rx_bp (v := (-2)) (pc2 := 26) op210_24 (by decide) rfl ?_
      obtain ⟨rfl, rfl⟩ := rq_ret h
      exact ry_ri op210_26 ms_210 rfl
    · have h := (if_neg b5).symm.trans h
      refine rx_p (L2 := [some (.ref 115), some (.int a1), none, none]) (S2 := [.int a1]) (pc2 := 28) op210_27 rfl rfl ?_
      refine rx_p (L2 := [some (.ref 115), some (.int a1), none, none]) (S2 := [.ref 115, .int a1]) (pc2 := 29) op210_28 rfl rfl ?_
      obtain ⟨⟨r7, m6⟩, f8, h⟩ := rq_bind h
      try dsimp only at h
      refine ry_iv (p := 115) (vs := []) (T := [.int a1]) (pc2 := 32) op210_29 ms_155 (by decide) rfl rfl (Nat.le_of_ble_eq_true rfl) (Nat.le_of_ble_eq_true rfl) sp_115 (mo_size_ok xs (by omega)  f8) rfl ?_
      show rn_R _ _ _ _ _ [.int r7, .int a1] _ _ _
      refine ry_ic_lt (tgt := 37) (pc2 := 35) op210_32 (by decide) (by decide) rfl (fun b9 => ?_) (fun b9 => ?_)
      · have h := (if_pos b9).symm.trans h
        refine rx_p (L2 := [some (.ref 115), some (.int a1), none, none]) (S2 := [.ref 115]) (pc2 := 38) op210_37 rfl rfl ?_
        refine rx_p (L2 := [some (.ref 115), some (.int a1), none, none]) (S2 := [.int a1, .ref 115]) (pc2 := 39) op210_38 rfl rfl ?_
        obtain ⟨⟨r11, m10⟩, f12, h⟩ := rq_bind h
        try dsimp only at h
        refine ry_iv (p := 115) (vs := [.int a1]) (T := []) (pc2 := 42) op210_39 ms_211 (by decide) rfl rfl (Nat.le_of_ble_eq_true rfl) (Nat.le_of_ble_eq_true rfl) sp_115 (mo_worthAt_ok xs (by omega)  f12) rfl ?_
        show rn_R _ _ _ _ _ [.int r11] _ _ _
        refine rx_s (L2 := [some (.ref 115), some (.int a1), some (.int r11), none]) (pc2 := 43) op210_42 rfl rfl rfl ?_
        refine rx_p (L2 := [some (.ref 115), some (.int a1), some (.int r11), none]) (S2 := [.ref 115]) (pc2 := 44) op210_43 rfl rfl ?_
        refine rx_p (L2 := [some (.ref 115), some (.int a1), some (.int r11), none]) (S2 := [.int a1, .ref 115]) (pc2 := 45) op210_44 rfl rfl ?_
        refine rx_ic (v := 1) (pc2 := 46) op210_45 (by decide) rfl ?_
        refine rx_p (L2 := [some (.ref 115), some (.int a1), some (.int r11), none]) (S2 := [.int (a1 + 1), .ref 115]) (pc2 := 47) op210_46 rfl rfl ?_
        obtain ⟨⟨r14, m13⟩, f15, h⟩ := rq_bind h
        try dsimp only at h
        refine ry_iv (p := 115) (vs := [.int (a1 + 1)]) (T := []) (pc2 := 50) op210_47 ms_211 (by decide) rfl rfl (Nat.le_of_ble_eq_true rfl) (Nat.le_of_ble_eq_true rfl) sp_115 (mo_worthAt_ok xs (by omega)  f15) rfl ?_
        show rn_R _ _ _ _ _ [.int r14] _ _ _
        refine rx_s (L2 := [some (.ref 115), some (.int a1), some (.int r11), some (.int r14)]) (pc2 := 51) op210_50 rfl rfl rfl ?_
        refine rx_p (L2 := [some (.ref 115), some (.int a1), some (.int r11), some (.int r14)]) (S2 := [.ref 115]) (pc2 := 52) op210_51 rfl rfl ?_
        obtain ⟨m16, f17, h⟩ := rq_bind h
        try dsimp only at h
        refine ry_iv (p := 115) (vs := []) (T := []) (pc2 := 55) op210_52 ms_159 (by decide) rfl rfl (Nat.le_of_ble_eq_true rfl) (Nat.le_of_ble_eq_true rfl) sp_115 (mo_takeRow_ok xs (by omega)  f17) rfl ?_
        show rn_R _ _ _ _ _ [] _ _ _
        refine rx_p (L2 := [some (.ref 115), some (.int a1), some (.int r11), some (.int r14)]) (S2 := [.ref 115]) (pc2 := 56) op210_55 rfl rfl ?_
        refine rx_p (L2 := [some (.ref 115), some (.int a1), some (.int r11), some (.int r14)]) (S2 := [.int a1, .ref 115]) (pc2 := 57) op210_56 rfl rfl ?_
        obtain ⟨⟨r19, m18⟩, f20, h⟩ := rq_bind h
        try dsimp only at h
        refine ry_iv (p := 115) (vs := [.int a1]) (T := []) (pc2 := 60) op210_57 ms_200 (by decide) rfl rfl (Nat.le_of_ble_eq_true rfl) (Nat.le_of_ble_eq_true rfl) sp_115 (mo_playerAt_ok xs (by omega)  f20) rfl ?_
        show rn_R _ _ _ _ _ [.int r19] _ _ _
        refine rx_ic (v := 2) (pc2 := 61) op210_60 (by decide) rfl ?_
        refine rx_rem (v := rn_rem r19 2) (pc2 := 62) op210_61 (by decide) rfl rfl ?_
        refine ry_if_ne (tgt := 71) (pc2 := 65) op210_62 (by decide) (by decide) rfl (fun b21 => ?_) (fun b21 => ?_)
        · have h := (if_pos b21).symm.trans h
          refine rx_p (L2 := [some (.ref 115), some (.int a1), some (.int r11), some (.int r14)]) (S2 := [.int r11]) (pc2 := 66) op210_65 rfl rfl ?_
          refine rx_p (L2 := [some (.ref 115), some (.int a1), some (.int r11), some (.int r14)]) (S2 := [.int r14, .int r11]) (pc2 := 67) op210_66 rfl rfl ?_
          refine rx_p (L2 := [some (.ref 115), some (.int a1), some (.int r11), some (.int r14)]) (S2 := [.int (r11 - r14)]) (pc2 := 68) op210_67 rfl rfl ?_
          refine ry_go (tgt := 74) op210_68 (by decide) (by decide) ?_
          obtain ⟨rfl, rfl⟩ := rq_ret h
          exact ry_ri op210_74 ms_210 rfl
        · have h := (if_neg b21).symm.trans h
          refine rx_p (L2 := [some (.ref 115), some (.int a1), some (.int r11), some (.int r14)]) (S2 := [.int r14]) (pc2 := 72) op210_71 rfl rfl ?_
          refine rx_p (L2 := [some (.ref 115), some (.int a1), some (.int r11), some (.int r14)]) (S2 := [.int r11, .int r14]) (pc2 := 73) op210_72 rfl rfl ?_
          refine rx_p (L2 := [some (.ref 115), some (.int a1), some (.int r11), some (.int r14)]) (S2 := [.int (r14 - r11)]) (pc2 := 74) op210_73 rfl rfl ?_
          obtain ⟨rfl, rfl⟩ := rq_ret h
          exact ry_ri op210_74 ms_210 rfl
      · have h := (if_neg b9).symm.trans h
        refine rx_ic (v := (-1)) (pc2 := 36) op210_35 (by decide) rfl ?_
        obtain ⟨rfl, rfl⟩ := rq_ret h
        exact ry_ri op210_36 ms_210 rfl
/-! mo_findLacks -/
theorem op213_0 : rn_op 213 0 = some (.aload_n 0, 1, 0, 0, 0) := by decide +kernel
theorem op213_1 : rn_op 213 1 = some (.getfield 7, 3, 11, 0, 3) := by decide +kernel
theorem op213_4 : rn_op 213 4 = some (.iconst 1, 1, 0, 0, 0) := by decide +kernel
theorem op213_5 : rn_op 213 5 = some (.iaload, 1, 0, 0, 0) := by decide +kernel
theorem op213_6 : rn_op 213 6 = some (.istore_n 2, 1, 0, 0, 0) := by decide +kernel
theorem op213_7 : rn_op 213 7 = some (.iconst 0, 1, 0, 0, 0) := by decide +kernel
theorem op213_8 : rn_op 213 8 = some (.istore_n 3, 1, 0, 0, 0) := by decide +kernel
theorem op213_9 : rn_op 213 9 = some (.iload_n 3, 1, 0, 0, 0) := by decide +kernel
theorem op213_10 : rn_op 213 10 = some (.iload_n 2, 1, 0, 0, 0) := by decide +kernel
theorem op213_11 : rn_op 213 11 = some (.if_icmp .ge 16, 3, 0, 0, 0) := by decide +kernel
theorem op213_14 : rn_op 213 14 = some (.aload_n 0, 1, 0, 0, 0) := by decide +kernel
theorem op213_15 : rn_op 213 15 = some (.getfield 100, 3, 11, 43, 3) := by decide +kernel
theorem op213_18 : rn_op 213 18 = some (.iload_n 3, 1, 0, 0, 0) := by decide +kernel
theorem op213_19 : rn_op 213 19 = some (.iconst 0, 1, 0, 0, 0) := by decide +kernel
theorem op213_20 : rn_op 213 20 = some (.iastore, 1, 0, 0, 0) := by decide +kernel
theorem op213_21 : rn_op 213 21 = some (.iinc 3 1, 3, 0, 0, 0) := by decide +kernel
theorem op213_24 : rn_op 213 24 = some (.goto (-15), 3, 0, 0, 0) := by decide +kernel
theorem op213_27 : rn_op 213 27 = some (.iconst 0, 1, 0, 0, 0) := by decide +kernel
theorem op213_28 : rn_op 213 28 = some (.istore_n 3, 1, 0, 0, 0) := by decide +kernel
theorem op213_29 : rn_op 213 29 = some (.iload_n 3, 1, 0, 0, 0) := by decide +kernel
theorem op213_30 : rn_op 213 30 = some (.iload_n 1, 1, 0, 0, 0) := by decide +kernel
theorem op213_31 : rn_op 213 31 = some (.iload_n 2, 1, 0, 0, 0) := by decide +kernel
theorem op213_32 : rn_op 213 32 = some (.imul, 1, 0, 0, 0) := by decide +kernel
theorem op213_33 : rn_op 213 33 = some (.if_icmp .ge 124, 3, 0, 0, 0) := by decide +kernel
theorem op213_36 : rn_op 213 36 = some (.aload_n 0, 1, 0, 0, 0) := by decide +kernel
theorem op213_37 : rn_op 213 37 = some (.getfield 7, 3, 11, 0, 3) := by decide +kernel
theorem op213_40 : rn_op 213 40 = some (.iconst 5, 1, 0, 0, 0) := by decide +kernel
theorem op213_41 : rn_op 213 41 = some (.iaload, 1, 0, 0, 0) := by decide +kernel
theorem op213_42 : rn_op 213 42 = some (.iconst 1, 1, 0, 0, 0) := by decide +kernel
theorem op213_43 : rn_op 213 43 = some (.if_icmp .eq 114, 3, 0, 0, 0) := by decide +kernel
theorem op213_46 : rn_op 213 46 = some (.aload_n 0, 1, 0, 0, 0) := by decide +kernel
theorem op213_47 : rn_op 213 47 = some (.getfield 85, 3, 11, 38, 3) := by decide +kernel
theorem op213_50 : rn_op 213 50 = some (.iload_n 3, 1, 0, 0, 0) := by decide +kernel
theorem op213_51 : rn_op 213 51 = some (.iload_n 3, 1, 0, 0, 0) := by decide +kernel
theorem op213_52 : rn_op 213 52 = some (.iload_n 2, 1, 0, 0, 0) := by decide +kernel
theorem op213_53 : rn_op 213 53 = some (.irem, 1, 0, 0, 0) := by decide +kernel
theorem op213_54 : rn_op 213 54 = some (.isub, 1, 0, 0, 0) := by decide +kernel
theorem op213_55 : rn_op 213 55 = some (.iaload, 1, 0, 0, 0) := by decide +kernel
theorem op213_56 : rn_op 213 56 = some (.invokestatic 185, 3, 162, 1, 0) := by decide +kernel
theorem op213_59 : rn_op 213 59 = some (.istore 4, 2, 0, 0, 0) := by decide +kernel
theorem op213_61 : rn_op 213 61 = some (.aload_n 0, 1, 0, 0, 0) := by decide +kernel
theorem op213_62 : rn_op 213 62 = some (.getfield 85, 3, 11, 38, 3) := by decide +kernel
theorem op213_65 : rn_op 213 65 = some (.iload_n 3, 1, 0, 0, 0) := by decide +kernel
theorem op213_66 : rn_op 213 66 = some (.iaload, 1, 0, 0, 0) := by decide +kernel
theorem op213_67 : rn_op 213 67 = some (.invokestatic 185, 3, 162, 1, 0) := by decide +kernel
theorem op213_70 : rn_op 213 70 = some (.istore 5, 2, 0, 0, 0) := by decide +kernel
theorem op213_72 : rn_op 213 72 = some (.iload 5, 2, 0, 0, 0) := by decide +kernel
theorem op213_74 : rn_op 213 74 = some (.iload 4, 2, 0, 0, 0) := by decide +kernel
theorem op213_76 : rn_op 213 76 = some (.if_icmp .eq 75, 3, 0, 0, 0) := by decide +kernel
theorem op213_79 : rn_op 213 79 = some (.aload_n 0, 1, 0, 0, 0) := by decide +kernel
theorem op213_80 : rn_op 213 80 = some (.getfield 100, 3, 11, 43, 3) := by decide +kernel
theorem op213_83 : rn_op 213 83 = some (.aload_n 0, 1, 0, 0, 0) := by decide +kernel
theorem op213_84 : rn_op 213 84 = some (.iload_n 3, 1, 0, 0, 0) := by decide +kernel
theorem op213_85 : rn_op 213 85 = some (.invokevirtual 285, 3, 200, 2, 11) := by decide +kernel
theorem op213_88 : rn_op 213 88 = some (.dup2, 1, 0, 0, 0) := by decide +kernel
theorem op213_89 : rn_op 213 89 = some (.iaload, 1, 0, 0, 0) := by decide +kernel
theorem op213_90 : rn_op 213 90 = some (.iconst 1, 1, 0, 0, 0) := by decide +kernel
theorem op213_91 : rn_op 213 91 = some (.iload 4, 2, 0, 0, 0) := by decide +kernel
theorem op213_93 : rn_op 213 93 = some (.ishl, 1, 0, 0, 0) := by decide +kernel
theorem op213_94 : rn_op 213 94 = some (.ior, 1, 0, 0, 0) := by decide +kernel
theorem op213_95 : rn_op 213 95 = some (.iastore, 1, 0, 0, 0) := by decide +kernel
theorem op213_96 : rn_op 213 96 = some (.aload_n 0, 1, 0, 0, 0) := by decide +kernel
theorem op213_97 : rn_op 213 97 = some (.getfield 100, 3, 11, 43, 3) := by decide +kernel
theorem op213_100 : rn_op 213 100 = some (.aload_n 0, 1, 0, 0, 0) := by decide +kernel
theorem op213_101 : rn_op 213 101 = some (.iload_n 3, 1, 0, 0, 0) := by decide +kernel
theorem op213_102 : rn_op 213 102 = some (.invokevirtual 285, 3, 200, 2, 11) := by decide +kernel
theorem op213_105 : rn_op 213 105 = some (.dup2, 1, 0, 0, 0) := by decide +kernel
theorem op213_106 : rn_op 213 106 = some (.iaload, 1, 0, 0, 0) := by decide +kernel
theorem op213_107 : rn_op 213 107 = some (.aload_n 0, 1, 0, 0, 0) := by decide +kernel
theorem op213_108 : rn_op 213 108 = some (.getfield 7, 3, 11, 0, 3) := by decide +kernel
theorem op213_111 : rn_op 213 111 = some (.iconst 5, 1, 0, 0, 0) := by decide +kernel
theorem op213_112 : rn_op 213 112 = some (.iaload, 1, 0, 0, 0) := by decide +kernel
theorem op213_113 : rn_op 213 113 = some (.iconst 2, 1, 0, 0, 0) := by decide +kernel
theorem op213_114 : rn_op 213 114 = some (.if_icmp .ne 34, 3, 0, 0, 0) := by decide +kernel
theorem op213_117 : rn_op 213 117 = some (.aload_n 0, 1, 0, 0, 0) := by decide +kernel
theorem op213_118 : rn_op 213 118 = some (.getfield 7, 3, 11, 0, 3) := by decide +kernel
theorem op213_121 : rn_op 213 121 = some (.iconst 4, 1, 0, 0, 0) := by decide +kernel
theorem op213_122 : rn_op 213 122 = some (.iaload, 1, 0, 0, 0) := by decide +kernel
theorem op213_123 : rn_op 213 123 = some (.ifCond .lt 25, 3, 0, 0, 0) := by decide +kernel
theorem op213_126 : rn_op 213 126 = some (.iload 5, 2, 0, 0, 0) := by decide +kernel
theorem op213_128 : rn_op 213 128 = some (.aload_n 0, 1, 0, 0, 0) := by decide +kernel
theorem op213_129 : rn_op 213 129 = some (.getfield 7, 3, 11, 0, 3) := by decide +kernel
theorem op213_132 : rn_op 213 132 = some (.iconst 4, 1, 0, 0, 0) := by decide +kernel
theorem op213_133 : rn_op 213 133 = some (.iaload, 1, 0, 0, 0) := by decide +kernel
theorem op213_134 : rn_op 213 134 = some (.if_icmp .eq 14, 3, 0, 0, 0) := by decide +kernel
theorem op213_137 : rn_op 213 137 = some (.iconst 1, 1, 0, 0, 0) := by decide +kernel
theorem op213_138 : rn_op 213 138 = some (.aload_n 0, 1, 0, 0, 0) := by decide +kernel
theorem op213_139 : rn_op 213 139 = some (.getfield 7, 3, 11, 0, 3) := by decide +kernel
theorem op213_142 : rn_op 213 142 = some (.iconst 4, 1, 0, 0, 0) := by decide +kernel
theorem op213_143 : rn_op 213 143 = some (.iaload, 1, 0, 0, 0) := by decide +kernel
theorem op213_144 : rn_op 213 144 = some (.ishl, 1, 0, 0, 0) := by decide +kernel
theorem op213_145 : rn_op 213 145 = some (.goto 4, 3, 0, 0, 0) := by decide +kernel
theorem op213_148 : rn_op 213 148 = some (.iconst 0, 1, 0, 0, 0) := by decide +kernel
theorem op213_149 : rn_op 213 149 = some (.ior, 1, 0, 0, 0) := by decide +kernel
theorem op213_150 : rn_op 213 150 = some (.iastore, 1, 0, 0, 0) := by decide +kernel
theorem op213_151 : rn_op 213 151 = some (.iinc 3 1, 3, 0, 0, 0) := by decide +kernel
theorem op213_154 : rn_op 213 154 = some (.goto (-125), 3, 0, 0, 0) := by decide +kernel
theorem op213_157 : rn_op 213 157 = some (.return_, 1, 0, 0, 0) := by decide +kernel
def mo_findLacks_l9 (a1 : Int32) (a2 : Int32) : Nat → Int32 → rn_Mem → Option (rn_Mem)
  | 0, _, _ => none
  | n + 1, a3, m =>
    if a3 < a2 then
      if rn_in a3 4 = true then
        (some (rm_i m 146 a3.toNatClampNeg 0)).bind fun (m3 : rn_Mem) =>
        (some (a3 + 1)).bind fun (x5 : Int32) =>
        mo_findLacks_l9 a1 a2 n x5 m3
      else none
    else
      some m
def mo_findLacks_l29 (a1 : Int32) (a2 : Int32) : Nat → Int32 → rn_Mem → Option (rn_Mem)
  | 0, _, _ => none
  | n + 1, a3, m =>
    if a3 < (a1 * a2) then
      if (m.1 116 5) = 1 then
        some m
      else
        if ¬ a2 = 0 then
          if rn_in (a3 - (rn_rem a3 a2)) 12 = true then
            (mo_suitOf n (m.1 141 (a3 - (rn_rem a3 a2)).toNatClampNeg) m).bind fun (r15, m14) =>
            if rn_in a3 12 = true then
              (mo_suitOf n (m14.1 141 a3.toNatClampNeg) m14).bind fun (r19, m18) =>
              (show Option (rn_Mem) from
                if r19 = r15 then
                  some (m18)
                else
                  (mo_playerAt n a3 m18).bind fun (r23, m22) =>
                  if rn_in r23 4 = true then
                    if rn_in r23 4 = true then
                      (some (rm_i m22 146 r23.toNatClampNeg ((m22.1 146 r23.toNatClampNeg) ||| ((1 : Int32) <<< (r15 &&& 31))))).bind fun (m26 : rn_Mem) =>
                      (mo_playerAt n a3 m26).bind fun (r29, m28) =>
                      if rn_in r29 4 = true then
                        (show Option (Int32) from
                          if (m28.1 116 5) = 2 then
                            if (m28.1 116 4) < 0 then
                              some (0)
                            else
                              if r19 = (m28.1 116 4) then
                                some (0)
                              else
                                some ((1 : Int32) <<< ((m28.1 116 4) &&& 31))
                          else
                            some (0)).bind fun x37 =>
                        if rn_in r29 4 = true then
                          (some (rm_i m28 146 r29.toNatClampNeg ((m28.1 146 r29.toNatClampNeg) ||| x37))).bind fun (m38 : rn_Mem) =>
                          some (m38)
                        else none
                      else none
                    else none
                  else none).bind fun m43 =>
              (some (a3 + 1)).bind fun (x44 : Int32) =>
              mo_findLacks_l29 a1 a2 n x44 m43
            else none
          else none
        else none
    else
      some m
def mo_findLacks (n : Nat) (a1 : Int32) (m : rn_Mem) : Option (rn_Mem) :=
  (some (m.1 116 1)).bind fun (x1 : Int32) =>
  (mo_findLacks_l9 a1 x1 n 0 m).bind fun m6 =>
  (mo_findLacks_l29 a1 x1 n 0 m6).bind fun m46 =>
  some m46
set_option maxHeartbeats 4000000 in
set_option maxRecDepth 20000 in
theorem mo_findLacks_l9_ok (xs : List Int32) {d : Nat} (hd : 1 ≤ d + 1) {a1 : Int32} {a2 : Int32} {r : Option Value} {τ : rn_H} {out : rn_Mem} (hr : ∀ (mO : rn_Mem), out = mO → ∀ (o3 o4 o5 : Option Value), rn_R xs (d + 1) 213 27 [some (.ref 115), some (.int a1), some (.int a2), o3, o4, o5] [] (rn_SH, mO) r τ) : ∀ (n : Nat) (a3 : Int32) (o4 o5 : Option Value) (m : rn_Mem), mo_findLacks_l9 a1 a2 n a3 m = some out → rn_R xs (d + 1) 213 9 [some (.ref 115), some (.int a1), some (.int a2), some (.int a3), o4, o5] [] (rn_SH, m) r τ := by
  intro n
  induction n with
  | zero =>
    intro _ _ _ _ h
    cases h
  | succ n ih =>
    intro a3 o4 o5 m h
    unfold mo_findLacks_l9 at h
    try dsimp only at h
    refine rx_p (L2 := [some (.ref 115), some (.int a1), some (.int a2), some (.int a3), o4, o5]) (S2 := [.int a3]) (pc2 := 10) op213_9 rfl rfl ?_
    refine rx_p (L2 := [some (.ref 115), some (.int a1), some (.int a2), some (.int a3), o4, o5]) (S2 := [.int a2, .int a3]) (pc2 := 11) op213_10 rfl rfl ?_
    refine ry_ic_ge (tgt := 27) (pc2 := 14) op213_11 (by decide) (by decide) rfl (fun b2 => ?_) (fun b2 => ?_)
    · have h := (if_pos b2).symm.trans h
      refine rx_p (L2 := [some (.ref 115), some (.int a1), some (.int a2), some (.int a3), o4, o5]) (S2 := [.ref 115]) (pc2 := 15) op213_14 rfl rfl ?_
      refine rx_gf (v := .ref 146) (pc2 := 18) op213_15 sp_115 rfl rfl rfl ?_
      refine rx_p (L2 := [some (.ref 115), some (.int a1), some (.int a2), some (.int a3), o4, o5]) (S2 := [.int a3, .ref 146]) (pc2 := 19) op213_18 rfl rfl ?_
      refine rx_ic (v := 0) (pc2 := 20) op213_19 (by decide) rfl ?_
      obtain ⟨k4, h⟩ := rq_chk h
      obtain ⟨m3, em3, h⟩ := rq_bv h
      refine rx_is (m2 := m3) (pc2 := 21) op213_20 sp_146 k4 rfl em3 rfl ?_
      obtain ⟨x5, ex5, h⟩ := rq_bv h
      refine rx_inc (w := 1) (v := x5) (L2 := [some (.ref 115), some (.int a1), some (.int a2), some (.int x5), o4, o5]) (pc2 := 24) op213_21 rfl (by decide) ex5 rfl rfl ?_
      refine ry_go (tgt := 9) op213_24 (by decide) (by decide) ?_
      exact ih _ _ _ _ h
    · have h := (if_neg b2).symm.trans h
      cases h
      exact hr _ rfl _ _ _
set_option maxHeartbeats 4000000 in
set_option maxRecDepth 20000 in
theorem mo_findLacks_l29_ok (xs : List Int32) {d : Nat} (hd : 1 ≤ d + 1) {a1 : Int32} {a2 : Int32} {r : Option Value} {τ : rn_H} {out : rn_Mem} (hr : ∀ (mO : rn_Mem), out = mO → ∀ (o0 o1 o2 o3 o4 o5 : Option Value), rn_R xs (d + 1) 213 157 [o0, o1, o2, o3, o4, o5] [] (rn_SH, mO) r τ) : ∀ (n : Nat) (a3 : Int32) (o4 o5 : Option Value) (m : rn_Mem), mo_findLacks_l29 a1 a2 n a3 m = some out → rn_R xs (d + 1) 213 29 [some (.ref 115), some (.int a1), some (.int a2), some (.int a3), o4, o5] [] (rn_SH, m) r τ := by
  intro n
  induction n with
  | zero =>
    intro _ _ _ _ h
    cases h
  | succ n ih =>
    intro a3 o4 o5 m h
    unfold mo_findLacks_l29 at h
    try dsimp only at h
    refine rx_p (L2 := [some (.ref 115), some (.int a1), some (.int a2), some (.int a3), o4, o5]) (S2 := [.int a3]) (pc2 := 30) op213_29 rfl rfl ?_
    refine rx_p (L2 := [some (.ref 115), some (.int a1), some (.int a2), some (.int a3), o4, o5]) (S2 := [.int a1, .int a3]) (pc2 := 31) op213_30 rfl rfl ?_
    refine rx_p (L2 := [some (.ref 115), some (.int a1), some (.int a2), some (.int a3), o4, o5]) (S2 := [.int a2, .int a1, .int a3]) (pc2 := 32) op213_31 rfl rfl ?_
    refine rx_p (L2 := [some (.ref 115), some (.int a1), some (.int a2), some (.int a3), o4, o5]) (S2 := [.int (a1 * a2), .int a3]) (pc2 := 33) op213_32 rfl rfl ?_
    refine ry_ic_ge (tgt := 157) (pc2 := 36) op213_33 (by decide) (by decide) rfl (fun b10 => ?_) (fun b10 => ?_)
    · have h := (if_pos b10).symm.trans h
      refine rx_p (L2 := [some (.ref 115), some (.int a1), some (.int a2), some (.int a3), o4, o5]) (S2 := [.ref 115]) (pc2 := 37) op213_36 rfl rfl ?_
      refine rx_gf (v := .ref 116) (pc2 := 40) op213_37 sp_115 rfl rfl rfl ?_
      refine rx_ic (v := 5) (pc2 := 41) op213_40 (by decide) rfl ?_
      refine rx_ia (j := 5) (pc2 := 42) op213_41 (rn_shlt sp_116) sp_116 (by decide) (by decide) rfl ?_
      refine rx_ic (v := 1) (pc2 := 43) op213_42 (by decide) rfl ?_
      refine ry_ic_eq (tgt := 157) (pc2 := 46) op213_43 (by decide) (by decide) rfl (fun b11 => ?_) (fun b11 => ?_)
      · have h := (if_pos b11).symm.trans h
        cases h
        exact hr _ rfl _ _ _ _ _ _
      · have h := (if_neg b11).symm.trans h
        refine rx_p (L2 := [some (.ref 115), some (.int a1), some (.int a2), some (.int a3), o4, o5]) (S2 := [.ref 115]) (pc2 := 47) op213_46 rfl rfl ?_
        refine rx_gf (v := .ref 141) (pc2 := 50) op213_47 sp_115 rfl rfl rfl ?_
        refine rx_p (L2 := [some (.ref 115), some (.int a1), some (.int a2), some (.int a3), o4, o5]) (S2 := [.int a3, .ref 141]) (pc2 := 51) op213_50 rfl rfl ?_
        refine rx_p (L2 := [some (.ref 115), some (.int a1), some (.int a2), some (.int a3), o4, o5]) (S2 := [.int a3, .int a3, .ref 141]) (pc2 := 52) op213_51 rfl rfl ?_
        refine rx_p (L2 := [some (.ref 115), some (.int a1), some (.int a2), some (.int a3), o4, o5]) (S2 := [.int a2, .int a3, .int a3, .ref 141]) (pc2 := 53) op213_52 rfl rfl ?_
        obtain ⟨k12, h⟩ := rq_chk h
        refine rx_rem (v := rn_rem a3 a2) (pc2 := 54) op213_53 k12 rfl rfl ?_
        refine rx_p (L2 := [some (.ref 115), some (.int a1), some (.int a2), some (.int a3), o4, o5]) (S2 := [.int (a3 - (rn_rem a3 a2)), .ref 141]) (pc2 := 55) op213_54 rfl rfl ?_
        obtain ⟨k13, h⟩ := rq_chk h
        refine rx_ia (pc2 := 56) op213_55 (rn_shlt sp_141) sp_141 k13 rfl rfl ?_
        obtain ⟨⟨r15, m14⟩, f16, h⟩ := rq_bind h
        try dsimp only at h
        refine ry_is (vs := [.int (m.1 141 (a3 - (rn_rem a3 a2)).toNatClampNeg)]) (T := []) (pc2 := 59) op213_56 (by decide) ms_162 (by decide) rfl rfl (Nat.le_of_ble_eq_true rfl) (Nat.le_of_ble_eq_true rfl) (mo_suitOf_ok xs (by omega)  f16) rfl ?_
        show rn_R _ _ _ _ _ [.int r15] _ _ _
        refine rx_s (L2 := [some (.ref 115), some (.int a1), some (.int a2), some (.int a3), some (.int r15), o5]) (pc2 := 61) op213_59 rfl rfl rfl ?_
        refine rx_p (L2 := [some (.ref 115), some (.int a1), some (.int a2), some (.int a3), some (.int r15), o5]) (S2 := [.ref 115]) (pc2 := 62) op213_61 rfl rfl ?_
        refine rx_gf (v := .ref 141) (pc2 := 65) op213_62 sp_115 rfl rfl rfl ?_
        refine rx_p (L2 := [some (.ref 115), some (.int a1), some (.int a2), some (.int a3), some (.int r15), o5]) (S2 := [.int a3, .ref 141]) (pc2 := 66) op213_65 rfl rfl ?_
        obtain ⟨k17, h⟩ := rq_chk h
        refine rx_ia (pc2 := 67) op213_66 (rn_shlt sp_141) sp_141 k17 rfl rfl ?_
        obtain ⟨⟨r19, m18⟩, f20, h⟩ := rq_bind h
        try dsimp only at h
        refine ry_is (vs := [.int (m14.1 141 a3.toNatClampNeg)]) (T := []) (pc2 := 70) op213_67 (by decide) ms_162 (by decide) rfl rfl (Nat.le_of_ble_eq_true rfl) (Nat.le_of_ble_eq_true rfl) (mo_suitOf_ok xs (by omega)  f20) rfl ?_
        show rn_R _ _ _ _ _ [.int r19] _ _ _
        refine rx_s (L2 := [some (.ref 115), some (.int a1), some (.int a2), some (.int a3), some (.int r15), some (.int r19)]) (pc2 := 72) op213_70 rfl rfl rfl ?_
        refine rx_p (L2 := [some (.ref 115), some (.int a1), some (.int a2), some (.int a3), some (.int r15), some (.int r19)]) (S2 := [.int r19]) (pc2 := 74) op213_72 rfl rfl ?_
        refine rx_p (L2 := [some (.ref 115), some (.int a1), some (.int a2), some (.int a3), some (.int r15), some (.int r19)]) (S2 := [.int r15, .int r19]) (pc2 := 76) op213_74 rfl rfl ?_
        obtain ⟨m43, gc45, h⟩ := rq_bind h
        try dsimp only at h
        have c45 : ∀ (o41 o42 : Option Value), rn_R xs (d + 1) 213 151 [some (.ref 115), some (.int a1), some (.int a2), some (.int a3), o41, o42] [] (rn_SH, m43) r τ := by
          intro o41 o42
          obtain ⟨x44, ex44, h⟩ := rq_bv h
          refine rx_inc (w := 1) (v := x44) (L2 := [some (.ref 115), some (.int a1), some (.int a2), some (.int x44), o41, o42]) (pc2 := 154) op213_151 rfl (by decide) ex44 rfl rfl ?_
          refine ry_go (tgt := 29) op213_154 (by decide) (by decide) ?_
          exact ih _ _ _ _ h
        refine ry_ic_eq (tgt := 151) (pc2 := 79) op213_76 (by decide) (by decide) rfl (fun b21 => ?_) (fun b21 => ?_)
        · have gc45 := (if_pos b21).symm.trans gc45
          cases gc45
          exact c45 _ _
        · have gc45 := (if_neg b21).symm.trans gc45
          refine rx_p (L2 := [some (.ref 115), some (.int a1), some (.int a2), some (.int a3), some (.int r15), some (.int r19)]) (S2 := [.ref 115]) (pc2 := 80) op213_79 rfl rfl ?_
          refine rx_gf (v := .ref 146) (pc2 := 83) op213_80 sp_115 rfl rfl rfl ?_
          refine rx_p (L2 := [some (.ref 115), some (.int a1), some (.int a2), some (.int a3), some (.int r15), some (.int r19)]) (S2 := [.ref 115, .ref 146]) (pc2 := 84) op213_83 rfl rfl ?_
          refine rx_p (L2 := [some (.ref 115), some (.int a1), some (.int a2), some (.int a3), some (.int r15), some (.int r19)]) (S2 := [.int a3, .ref 115, .ref 146]) (pc2 := 85) op213_84 rfl rfl ?_
          obtain ⟨⟨r23, m22⟩, f24, gc45⟩ := rq_bind gc45
          try dsimp only at gc45
          refine ry_iv (p := 115) (vs := [.int a3]) (T := [.ref 146]) (pc2 := 88) op213_85 ms_200 (by decide) rfl rfl (Nat.le_of_ble_eq_true rfl) (Nat.le_of_ble_eq_true rfl) sp_115 (mo_playerAt_ok xs (by omega)  f24) rfl ?_
          show rn_R _ _ _ _ _ [.int r23, .ref 146] _ _ _
          refine rx_p (L2 := [some (.ref 115), some (.int a1), some (.int a2), some (.int a3), some (.int r15), some (.int r19)]) (S2 := [.int r23, .ref 146, .int r23, .ref 146]) (pc2 := 89) op213_88 rfl rfl ?_
          obtain ⟨k25, gc45⟩ := rq_chk gc45
          refine rx_ia (pc2 := 90) op213_89 (rn_shlt sp_146) sp_146 k25 rfl rfl ?_
          refine rx_ic (v := 1) (pc2 := 91) op213_90 (by decide) rfl ?_
          refine rx_p (L2 := [some (.ref 115), some (.int a1), some (.int a2), some (.int a3), some (.int r15), some (.int r19)]) (S2 := [.int r15, .int 1, .int (m22.1 146 r23.toNatClampNeg), .int r23, .ref 146]) (pc2 := 93) op213_91 rfl rfl ?_
          refine rx_p (L2 := [some (.ref 115), some (.int a1), some (.int a2), some (.int a3), some (.int r15), some (.int r19)]) (S2 := [.int ((1 : Int32) <<< (r15 &&& 31)), .int (m22.1 146 r23.toNatClampNeg), .int r23, .ref 146]) (pc2 := 94) op213_93 rfl rfl ?_
          refine rx_p (L2 := [some (.ref 115), some (.int a1), some (.int a2), some (.int a3), some (.int r15), some (.int r19)]) (S2 := [.int ((m22.1 146 r23.toNatClampNeg) ||| ((1 : Int32) <<< (r15 &&& 31))), .int r23, .ref 146]) (pc2 := 95) op213_94 rfl rfl ?_
          obtain ⟨k27, gc45⟩ := rq_chk gc45
          obtain ⟨m26, em26, gc45⟩ := rq_bv gc45
          refine rx_is (m2 := m26) (pc2 := 96) op213_95 sp_146 k27 rfl em26 rfl ?_
          refine rx_p (L2 := [some (.ref 115), some (.int a1), some (.int a2), some (.int a3), some (.int r15), some (.int r19)]) (S2 := [.ref 115]) (pc2 := 97) op213_96 rfl rfl ?_
          refine rx_gf (v := .ref 146) (pc2 := 100) op213_97 sp_115 rfl rfl rfl ?_
          refine rx_p (L2 := [some (.ref 115), some (.int a1), some (.int a2), some (.int a3), some (.int r15), some (.int r19)]) (S2 := [.ref 115, .ref 146]) (pc2 := 101) op213_100 rfl rfl ?_
          refine rx_p (L2 := [some (.ref 115), some (.int a1), some (.int a2), some (.int a3), some (.int r15), some (.int r19)]) (S2 := [.int a3, .ref 115, .ref 146]) (pc2 := 102) op213_101 rfl rfl ?_
          obtain ⟨⟨r29, m28⟩, f30, gc45⟩ := rq_bind gc45
          try dsimp only at gc45
          refine ry_iv (p := 115) (vs := [.int a3]) (T := [.ref 146]) (pc2 := 105) op213_102 ms_200 (by decide) rfl rfl (Nat.le_of_ble_eq_true rfl) (Nat.le_of_ble_eq_true rfl) sp_115 (mo_playerAt_ok xs (by omega)  f30) rfl ?_
          show rn_R _ _ _ _ _ [.int r29, .ref 146] _ _ _
          refine rx_p (L2 := [some (.ref 115), some (.int a1), some (.int a2), some (.int a3), some (.int r15), some (.int r19)]) (S2 := [.int r29, .ref 146, .int r29, .ref 146]) (pc2 := 106) op213_105 rfl rfl ?_
          obtain ⟨k31, gc45⟩ := rq_chk gc45
          refine rx_ia (pc2 := 107) op213_106 (rn_shlt sp_146) sp_146 k31 rfl rfl ?_
          refine rx_p (L2 := [some (.ref 115), some (.int a1), some (.int a2), some (.int a3), some (.int r15), some (.int r19)]) (S2 := [.ref 115, .int (m28.1 146 r29.toNatClampNeg), .int r29, .ref 146]) (pc2 := 108) op213_107 rfl rfl ?_
          refine rx_gf (v := .ref 116) (pc2 := 111) op213_108 sp_115 rfl rfl rfl ?_
          refine rx_ic (v := 5) (pc2 := 112) op213_111 (by decide) rfl ?_
          refine rx_ia (j := 5) (pc2 := 113) op213_112 (rn_shlt sp_116) sp_116 (by decide) (by decide) rfl ?_
          refine rx_ic (v := 2) (pc2 := 114) op213_113 (by decide) rfl ?_
          obtain ⟨x37, gc40, gc45⟩ := rq_bind gc45
          try dsimp only at gc45
          have c40 : ∀ (o35 o36 : Option Value), rn_R xs (d + 1) 213 149 [some (.ref 115), some (.int a1), some (.int a2), some (.int a3), o35, o36] [.int x37, .int (m28.1 146 r29.toNatClampNeg), .int r29, .ref 146] (rn_SH, m28) r τ := by
            intro o35 o36
            refine rx_p (L2 := [some (.ref 115), some (.int a1), some (.int a2), some (.int a3), o35, o36]) (S2 := [.int ((m28.1 146 r29.toNatClampNeg) ||| x37), .int r29, .ref 146]) (pc2 := 150) op213_149 rfl rfl ?_
            obtain ⟨k39, gc45⟩ := rq_chk gc45
            obtain ⟨m38, em38, gc45⟩ := rq_bv gc45
            refine rx_is (m2 := m38) (pc2 := 151) op213_150 sp_146 k39 rfl em38 rfl ?_
            cases gc45
            exact c45 _ _
          refine ry_ic_ne (tgt := 148) (pc2 := 117) op213_114 (by decide) (by decide) rfl (fun b32 => ?_) (fun b32 => ?_)
          · have gc40 := (if_pos b32).symm.trans gc40
            refine rx_p (L2 := [some (.ref 115), some (.int a1), some (.int a2), some (.int a3), some (.int r15), some (.int r19)]) (S2 := [.ref 115, .int (m28.1 146 r29.toNatClampNeg), .int r29, .ref 146]) (pc2 := 118) op213_117 rfl rfl ?_
            refine rx_gf (v := .ref 116) (pc2 := 121) op213_118 sp_115 rfl rfl rfl ?_
            refine rx_ic (v := 4) (pc2 := 122) op213_121 (by decide) rfl ?_
            refine rx_ia (j := 4) (pc2 := 123) op213_122 (rn_shlt sp_116) sp_116 (by decide) (by decide) rfl ?_
            refine ry_if_lt (tgt := 148) (pc2 := 126) op213_123 (by decide) (by decide) rfl (fun b33 => ?_) (fun b33 => ?_)
            · have gc40 := (if_pos b33).symm.trans gc40
              refine rx_ic (v := 0) (pc2 := 149) op213_148 (by decide) rfl ?_
              cases gc40
              exact c40 _ _
            · have gc40 := (if_neg b33).symm.trans gc40
              refine rx_p (L2 := [some (.ref 115), some (.int a1), some (.int a2), some (.int a3), some (.int r15), some (.int r19)]) (S2 := [.int r19, .int (m28.1 146 r29.toNatClampNeg), .int r29, .ref 146]) (pc2 := 128) op213_126 rfl rfl ?_
              refine rx_p (L2 := [some (.ref 115), some (.int a1), some (.int a2), some (.int a3), some (.int r15), some (.int r19)]) (S2 := [.ref 115, .int r19, .int (m28.1 146 r29.toNatClampNeg), .int r29, .ref 146]) (pc2 := 129) op213_128 rfl rfl ?_
              refine rx_gf (v := .ref 116) (pc2 := 132) op213_129 sp_115 rfl rfl rfl ?_
              refine rx_ic (v := 4) (pc2 := 133) op213_132 (by decide) rfl ?_
              refine rx_ia (j := 4) (pc2 := 134) op213_133 (rn_shlt sp_116) sp_116 (by decide) (by decide) rfl ?_
              refine ry_ic_eq (tgt := 148) (pc2 := 137) op213_134 (by decide) (by decide) rfl (fun b34 => ?_) (fun b34 => ?_)
              · have gc40 := (if_pos b34).symm.trans gc40
                refine rx_ic (v := 0) (pc2 := 149) op213_148 (by decide) rfl ?_
                cases gc40
                exact c40 _ _
              · have gc40 := (if_neg b34).symm.trans gc40
                refine rx_ic (v := 1) (pc2 := 138) op213_137 (by decide) rfl ?_
                refine rx_p (L2 := [some (.ref 115), some (.int a1), some (.int a2), some (.int a3), some (.int r15), some (.int r19)]) (S2 := [.ref 115, .int 1, .int (m28.1 146 r29.toNatClampNeg), .int r29, .ref 146]) (pc2 := 139) op213_138 rfl rfl ?_
                refine rx_gf (v := .ref 116) (pc2 := 142) op213_139 sp_115 rfl rfl rfl ?_
                refine rx_ic (v := 4) (pc2 := 143) op213_142 (by decide) rfl ?_
                refine rx_ia (j := 4) (pc2 := 144) op213_143 (rn_shlt sp_116) sp_116 (by decide) (by decide) rfl ?_
                refine rx_p (L2 := [some (.ref 115), some (.int a1), some (.int a2), some (.int a3), some (.int r15), some (.int r19)]) (S2 := [.int ((1 : Int32) <<< ((m28.1 116 4) &&& 31)), .int (m28.1 146 r29.toNatClampNeg), .int r29, .ref 146]) (pc2 := 145) op213_144 rfl rfl ?_
                refine ry_go (tgt := 149) op213_145 (by decide) (by decide) ?_
                cases gc40
                exact c40 _ _
          · have gc40 := (if_neg b32).symm.trans gc40
            refine rx_ic (v := 0) (pc2 := 149) op213_148 (by decide) rfl ?_
            cases gc40
            exact c40 _ _
    · have h := (if_neg b10).symm.trans h
      cases h
      exact hr _ rfl _ _ _ _ _ _
set_option maxHeartbeats 4000000 in
set_option maxRecDepth 20000 in
theorem mo_findLacks_ok (xs : List Int32) {d : Nat} (hd : 1 ≤ d) {n : Nat} {a1 : Int32} {m mO : rn_Mem} (h : mo_findLacks n a1 m = some mO) : rn_R xs d 213 0 (rn_ent 6 [.ref 115, .int a1]) [] (rn_SH, m) none (rn_SH, mO) := by
  obtain ⟨d, rfl⟩ : ∃ e, d = e + 1 := ⟨d - 1, by omega⟩
  unfold mo_findLacks at h
  show rn_R xs (d + 1) 213 0 [some (.ref 115), some (.int a1), none, none, none, none] [] (rn_SH, m) none (rn_SH, mO)
  refine rx_p (L2 := [some (.ref 115), some (.int a1), none, none, none, none]) (S2 := [.ref 115]) (pc2 := 1) op213_0 rfl rfl ?_
  refine rx_gf (v := .ref 116) (pc2 := 4) op213_1 sp_115 rfl rfl rfl ?_
  refine rx_ic (v := 1) (pc2 := 5) op213_4 (by decide) rfl ?_
  refine rx_ia (j := 1) (pc2 := 6) op213_5 (rn_shlt sp_116) sp_116 (by decide) (by decide) rfl ?_
  obtain ⟨x1, ex1, h⟩ := rq_bv h
  refine rx_s (v := x1) (L2 := [some (.ref 115), some (.int a1), some (.int x1), none, none, none]) (pc2 := 7) op213_6 ex1 rfl rfl ?_
  refine rx_ic (v := 0) (pc2 := 8) op213_7 (by decide) rfl ?_
  refine rx_s (L2 := [some (.ref 115), some (.int a1), some (.int x1), some (.int 0), none, none]) (pc2 := 9) op213_8 rfl rfl rfl ?_
  obtain ⟨m6, f54, h⟩ := rq_bind h
  refine mo_findLacks_l9_ok xs hd (fun m0 eq => ?_) _ _ _ _ _  f54
  subst eq
  try dsimp only at h
  intro o7 o8 o9
  refine rx_ic (v := 0) (pc2 := 28) op213_27 (by decide) rfl ?_
  refine rx_s (L2 := [some (.ref 115), some (.int a1), some (.int x1), some (.int 0), o8, o9]) (pc2 := 29) op213_28 rfl rfl rfl ?_
  obtain ⟨m46, f53, h⟩ := rq_bind h
  refine mo_findLacks_l29_ok xs hd (fun m0 eq => ?_) _ _ _ _ _  f53
  subst eq
  try dsimp only at h
  intro o47 o48 o49 o50 o51 o52
  obtain rfl := Option.some.inj h
  exact ry_rv op213_157 ms_213 rfl
/-! mo_isDeal -/
theorem op214_0 : rn_op 214 0 = some (.iload 4, 2, 0, 0, 0) := by decide +kernel
theorem op214_2 : rn_op 214 2 = some (.istore 5, 2, 0, 0, 0) := by decide +kernel
theorem op214_4 : rn_op 214 4 = some (.iconst 1, 1, 0, 0, 0) := by decide +kernel
theorem op214_5 : rn_op 214 5 = some (.istore 6, 2, 0, 0, 0) := by decide +kernel
theorem op214_7 : rn_op 214 7 = some (.iconst 0, 1, 0, 0, 0) := by decide +kernel
theorem op214_8 : rn_op 214 8 = some (.istore 7, 2, 0, 0, 0) := by decide +kernel
theorem op214_10 : rn_op 214 10 = some (.iload 7, 2, 0, 0, 0) := by decide +kernel
theorem op214_12 : rn_op 214 12 = some (.aload_n 0, 1, 0, 0, 0) := by decide +kernel
theorem op214_13 : rn_op 214 13 = some (.getfield 7, 3, 11, 0, 3) := by decide +kernel
theorem op214_16 : rn_op 214 16 = some (.iconst 1, 1, 0, 0, 0) := by decide +kernel
theorem op214_17 : rn_op 214 17 = some (.iaload, 1, 0, 0, 0) := by decide +kernel
theorem op214_18 : rn_op 214 18 = some (.if_icmp .ge 17, 3, 0, 0, 0) := by decide +kernel
theorem op214_21 : rn_op 214 21 = some (.aload_n 0, 1, 0, 0, 0) := by decide +kernel
theorem op214_22 : rn_op 214 22 = some (.getfield 106, 3, 11, 45, 3) := by decide +kernel
theorem op214_25 : rn_op 214 25 = some (.iload 7, 2, 0, 0, 0) := by decide +kernel
theorem op214_27 : rn_op 214 27 = some (.iconst 0, 1, 0, 0, 0) := by decide +kernel
theorem op214_28 : rn_op 214 28 = some (.iastore, 1, 0, 0, 0) := by decide +kernel
theorem op214_29 : rn_op 214 29 = some (.iinc 7 1, 3, 0, 0, 0) := by decide +kernel
theorem op214_32 : rn_op 214 32 = some (.goto (-22), 3, 0, 0, 0) := by decide +kernel
theorem op214_35 : rn_op 214 35 = some (.iconst 0, 1, 0, 0, 0) := by decide +kernel
theorem op214_36 : rn_op 214 36 = some (.istore 7, 2, 0, 0, 0) := by decide +kernel
theorem op214_38 : rn_op 214 38 = some (.iload 7, 2, 0, 0, 0) := by decide +kernel
theorem op214_40 : rn_op 214 40 = some (.iload_n 3, 1, 0, 0, 0) := by decide +kernel
theorem op214_41 : rn_op 214 41 = some (.if_icmp .ge 115, 3, 0, 0, 0) := by decide +kernel
theorem op214_44 : rn_op 214 44 = some (.iload 6, 2, 0, 0, 0) := by decide +kernel
theorem op214_46 : rn_op 214 46 = some (.ifCond .eq 110, 3, 0, 0, 0) := by decide +kernel
theorem op214_49 : rn_op 214 49 = some (.iload 5, 2, 0, 0, 0) := by decide +kernel
theorem op214_51 : rn_op 214 51 = some (.aload_n 0, 1, 0, 0, 0) := by decide +kernel
theorem op214_52 : rn_op 214 52 = some (.getfield 7, 3, 11, 0, 3) := by decide +kernel
theorem op214_55 : rn_op 214 55 = some (.iconst 1, 1, 0, 0, 0) := by decide +kernel
theorem op214_56 : rn_op 214 56 = some (.iaload, 1, 0, 0, 0) := by decide +kernel
theorem op214_57 : rn_op 214 57 = some (.iconst 1, 1, 0, 0, 0) := by decide +kernel
theorem op214_58 : rn_op 214 58 = some (.isub, 1, 0, 0, 0) := by decide +kernel
theorem op214_59 : rn_op 214 59 = some (.irem, 1, 0, 0, 0) := by decide +kernel
theorem op214_60 : rn_op 214 60 = some (.istore 8, 2, 0, 0, 0) := by decide +kernel
theorem op214_62 : rn_op 214 62 = some (.iload 5, 2, 0, 0, 0) := by decide +kernel
theorem op214_64 : rn_op 214 64 = some (.aload_n 0, 1, 0, 0, 0) := by decide +kernel
theorem op214_65 : rn_op 214 65 = some (.getfield 7, 3, 11, 0, 3) := by decide +kernel
theorem op214_68 : rn_op 214 68 = some (.iconst 1, 1, 0, 0, 0) := by decide +kernel
theorem op214_69 : rn_op 214 69 = some (.iaload, 1, 0, 0, 0) := by decide +kernel
theorem op214_70 : rn_op 214 70 = some (.iconst 1, 1, 0, 0, 0) := by decide +kernel
theorem op214_71 : rn_op 214 71 = some (.isub, 1, 0, 0, 0) := by decide +kernel
theorem op214_72 : rn_op 214 72 = some (.idiv, 1, 0, 0, 0) := by decide +kernel
theorem op214_73 : rn_op 214 73 = some (.istore 5, 2, 0, 0, 0) := by decide +kernel
theorem op214_75 : rn_op 214 75 = some (.iload 8, 2, 0, 0, 0) := by decide +kernel
theorem op214_77 : rn_op 214 77 = some (.iload 8, 2, 0, 0, 0) := by decide +kernel
theorem op214_79 : rn_op 214 79 = some (.iload_n 1, 1, 0, 0, 0) := by decide +kernel
theorem op214_80 : rn_op 214 80 = some (.if_icmp .lt 7, 3, 0, 0, 0) := by decide +kernel
theorem op214_83 : rn_op 214 83 = some (.iconst 1, 1, 0, 0, 0) := by decide +kernel
theorem op214_84 : rn_op 214 84 = some (.goto 4, 3, 0, 0, 0) := by decide +kernel
theorem op214_87 : rn_op 214 87 = some (.iconst 0, 1, 0, 0, 0) := by decide +kernel
theorem op214_88 : rn_op 214 88 = some (.iadd, 1, 0, 0, 0) := by decide +kernel
theorem op214_89 : rn_op 214 89 = some (.istore 8, 2, 0, 0, 0) := by decide +kernel
theorem op214_91 : rn_op 214 91 = some (.aload_n 0, 1, 0, 0, 0) := by decide +kernel
theorem op214_92 : rn_op 214 92 = some (.getfield 106, 3, 11, 45, 3) := by decide +kernel
theorem op214_95 : rn_op 214 95 = some (.iload 8, 2, 0, 0, 0) := by decide +kernel
theorem op214_97 : rn_op 214 97 = some (.dup2, 1, 0, 0, 0) := by decide +kernel
theorem op214_98 : rn_op 214 98 = some (.iaload, 1, 0, 0, 0) := by decide +kernel
theorem op214_99 : rn_op 214 99 = some (.iconst 1, 1, 0, 0, 0) := by decide +kernel
theorem op214_100 : rn_op 214 100 = some (.iadd, 1, 0, 0, 0) := by decide +kernel
theorem op214_101 : rn_op 214 101 = some (.iastore, 1, 0, 0, 0) := by decide +kernel
theorem op214_102 : rn_op 214 102 = some (.aload_n 0, 1, 0, 0, 0) := by decide +kernel
theorem op214_103 : rn_op 214 103 = some (.getfield 106, 3, 11, 45, 3) := by decide +kernel
theorem op214_106 : rn_op 214 106 = some (.iload 8, 2, 0, 0, 0) := by decide +kernel
theorem op214_108 : rn_op 214 108 = some (.iaload, 1, 0, 0, 0) := by decide +kernel
theorem op214_109 : rn_op 214 109 = some (.aload_n 0, 1, 0, 0, 0) := by decide +kernel
theorem op214_110 : rn_op 214 110 = some (.getfield 7, 3, 11, 0, 3) := by decide +kernel
theorem op214_113 : rn_op 214 113 = some (.iconst 2, 1, 0, 0, 0) := by decide +kernel
theorem op214_114 : rn_op 214 114 = some (.iaload, 1, 0, 0, 0) := by decide +kernel
theorem op214_115 : rn_op 214 115 = some (.iload_n 2, 1, 0, 0, 0) := by decide +kernel
theorem op214_116 : rn_op 214 116 = some (.isub, 1, 0, 0, 0) := by decide +kernel
theorem op214_117 : rn_op 214 117 = some (.if_icmp .gt 30, 3, 0, 0, 0) := by decide +kernel
theorem op214_120 : rn_op 214 120 = some (.aload_n 0, 1, 0, 0, 0) := by decide +kernel
theorem op214_121 : rn_op 214 121 = some (.getfield 100, 3, 11, 43, 3) := by decide +kernel
theorem op214_124 : rn_op 214 124 = some (.iload 8, 2, 0, 0, 0) := by decide +kernel
theorem op214_126 : rn_op 214 126 = some (.iaload, 1, 0, 0, 0) := by decide +kernel
theorem op214_127 : rn_op 214 127 = some (.aload_n 0, 1, 0, 0, 0) := by decide +kernel
theorem op214_128 : rn_op 214 128 = some (.getfield 103, 3, 11, 44, 3) := by decide +kernel
theorem op214_131 : rn_op 214 131 = some (.iload 7, 2, 0, 0, 0) := by decide +kernel
theorem op214_133 : rn_op 214 133 = some (.iaload, 1, 0, 0, 0) := by decide +kernel
theorem op214_134 : rn_op 214 134 = some (.invokestatic 185, 3, 162, 1, 0) := by decide +kernel
theorem op214_137 : rn_op 214 137 = some (.ishr, 1, 0, 0, 0) := by decide +kernel
theorem op214_138 : rn_op 214 138 = some (.iconst 1, 1, 0, 0, 0) := by decide +kernel
theorem op214_139 : rn_op 214 139 = some (.iand, 1, 0, 0, 0) := by decide +kernel
theorem op214_140 : rn_op 214 140 = some (.ifCond .ne 7, 3, 0, 0, 0) := by decide +kernel
theorem op214_143 : rn_op 214 143 = some (.iconst 1, 1, 0, 0, 0) := by decide +kernel
theorem op214_144 : rn_op 214 144 = some (.goto 4, 3, 0, 0, 0) := by decide +kernel
theorem op214_147 : rn_op 214 147 = some (.iconst 0, 1, 0, 0, 0) := by decide +kernel
theorem op214_148 : rn_op 214 148 = some (.istore 6, 2, 0, 0, 0) := by decide +kernel
theorem op214_150 : rn_op 214 150 = some (.iinc 7 1, 3, 0, 0, 0) := by decide +kernel
theorem op214_153 : rn_op 214 153 = some (.goto (-115), 3, 0, 0, 0) := by decide +kernel
theorem op214_156 : rn_op 214 156 = some (.iload 6, 2, 0, 0, 0) := by decide +kernel
theorem op214_158 : rn_op 214 158 = some (.ireturn, 1, 0, 0, 0) := by decide +kernel
def mo_isDeal_l10 (a1 : Int32) (a2 : Int32) (a3 : Int32) (a5 : Int32) (a6 : Int32) : Nat → Int32 → rn_Mem → Option (rn_Mem)
  | 0, _, _ => none
  | n + 1, a7, m =>
    if a7 < (m.1 116 1) then
      if rn_in a7 4 = true then
        (some (rm_i m 148 a7.toNatClampNeg 0)).bind fun (m2 : rn_Mem) =>
        (some (a7 + 1)).bind fun (x4 : Int32) =>
        mo_isDeal_l10 a1 a2 a3 a5 a6 n x4 m2
      else none
    else
      some m
def mo_isDeal_l38 (a1 : Int32) (a2 : Int32) (a3 : Int32) : Nat → Int32 → Int32 → Int32 → rn_Mem → Option (Int32 × rn_Mem)
  | 0, _, _, _, _ => none
  | n + 1, a5, a6, a7, m =>
    if a7 < a3 then
      if a6 = 0 then
        some (a6, m)
      else
        if ¬ ((m.1 116 1) - 1) = 0 then
          (some (rn_rem a5 ((m.1 116 1) - 1))).bind fun (x12 : Int32) =>
          if ¬ ((m.1 116 1) - 1) = 0 then
            (some (a5 / ((m.1 116 1) - 1))).bind fun (x15 : Int32) =>
            (show Option (Int32) from
              if x12 < a1 then
                some (0)
              else
                some (1)).bind fun x20 =>
            (some (x12 + x20)).bind fun (x21 : Int32) =>
            if rn_in x21 4 = true then
              if rn_in x21 4 = true then
                (some (rm_i m 148 x21.toNatClampNeg ((m.1 148 x21.toNatClampNeg) + 1))).bind fun (m23 : rn_Mem) =>
                if rn_in x21 4 = true then
                  (show Option (Int32 × rn_Mem) from
                    if ((m23.1 116 2) - a2) < (m23.1 148 x21.toNatClampNeg) then
                      some (0, m23)
                    else
                      if rn_in x21 4 = true then
                        if rn_in a7 12 = true then
                          (mo_suitOf n (m23.1 147 a7.toNatClampNeg) m23).bind fun (r30, m29) =>
                          if (((m23.1 146 x21.toNatClampNeg) >>> (r30 &&& 31)) &&& 1) = 0 then
                            some (1, m29)
                          else
                            some (0, m29)
                        else none
                      else none).bind fun (x36, m37) =>
                  (some (a7 + 1)).bind fun (x38 : Int32) =>
                  mo_isDeal_l38 a1 a2 a3 n x15 x36 x38 m37
                else none
              else none
            else none
          else none
        else none
    else
      some (a6, m)
def mo_isDeal (n : Nat) (a1 : Int32) (a2 : Int32) (a3 : Int32) (a4 : Int32) (m : rn_Mem) : Option (Int32 × rn_Mem) :=
  (mo_isDeal_l10 a1 a2 a3 a4 1 n 0 m).bind fun m5 =>
  (mo_isDeal_l38 a1 a2 a3 n a4 1 0 m5).bind fun (x48, m41) =>
  if x48 = 0 ∨ x48 = 1 then
    some (x48, m41)
  else none
set_option maxHeartbeats 4000000 in
set_option maxRecDepth 20000 in
theorem mo_isDeal_l10_ok (xs : List Int32) {d : Nat} (hd : 1 ≤ d + 1) {a1 : Int32} {a2 : Int32} {a3 : Int32} {a5 : Int32} {a6 : Int32} {r : Option Value} {τ : rn_H} {out : rn_Mem} (hr : ∀ (mO : rn_Mem), out = mO → ∀ (o4 o7 o8 : Option Value), rn_R xs (d + 1) 214 35 [some (.ref 115), some (.int a1), some (.int a2), some (.int a3), o4, some (.int a5), some (.int a6), o7, o8] [] (rn_SH, mO) r τ) : ∀ (n : Nat) (a7 : Int32) (o4 o8 : Option Value) (m : rn_Mem), mo_isDeal_l10 a1 a2 a3 a5 a6 n a7 m = some out → rn_R xs (d + 1) 214 10 [some (.ref 115), some (.int a1), some (.int a2), some (.int a3), o4, some (.int a5), some (.int a6), some (.int a7), o8] [] (rn_SH, m) r τ := by
  intro n
  induction n with
  | zero =>
    intro _ _ _ _ h
    cases h
  | succ n ih =>
    intro a7 o4 o8 m h
    unfold mo_isDeal_l10 at h
    try dsimp only at h
    refine rx_p (L2 := [some (.ref 115), some (.int a1), some (.int a2), some (.int a3), o4, some (.int a5), some (.int a6), some (.int a7), o8]) (S2 := [.int a7]) (pc2 := 12) op214_10 rfl rfl ?_
    refine rx_p (L2 := [some (.ref 115), some (.int a1), some (.int a2), some (.int a3), o4, some (.int a5), some (.int a6), some (.int a7), o8]) (S2 := [.ref 115, .int a7]) (pc2 := 13) op214_12 rfl rfl ?_
    refine rx_gf (v := .ref 116) (pc2 := 16) op214_13 sp_115 rfl rfl rfl ?_
    refine rx_ic (v := 1) (pc2 := 17) op214_16 (by decide) rfl ?_
    refine rx_ia (j := 1) (pc2 := 18) op214_17 (rn_shlt sp_116) sp_116 (by decide) (by decide) rfl ?_
    refine ry_ic_ge (tgt := 35) (pc2 := 21) op214_18 (by decide) (by decide) rfl (fun b1 => ?_) (fun b1 => ?_)
    · have h := (if_pos b1).symm.trans h
      refine rx_p (L2 := [some (.ref 115), some (.int a1), some (.int a2), some (.int a3), o4, some (.int a5), some (.int a6), some (.int a7), o8]) (S2 := [.ref 115]) (pc2 := 22) op214_21 rfl rfl ?_
      refine rx_gf (v := .ref 148) (pc2 := 25) op214_22 sp_115 rfl rfl rfl ?_
      refine rx_p (L2 := [some (.ref 115), some (.int a1), some (.int a2), some (.int a3), o4, some (.int a5), some (.int a6), some (.int a7), o8]) (S2 := [.int a7, .ref 148]) (pc2 := 27) op214_25 rfl rfl ?_
      refine rx_ic (v := 0) (pc2 := 28) op214_27 (by decide) rfl ?_
      obtain ⟨k3, h⟩ := rq_chk h
      obtain ⟨m2, em2, h⟩ := rq_bv h
      refine rx_is (m2 := m2) (pc2 := 29) op214_28 sp_148 k3 rfl em2 rfl ?_
      obtain ⟨x4, ex4, h⟩ := rq_bv h
      refine rx_inc (w := 1) (v := x4) (L2 := [some (.ref 115), some (.int a1), some (.int a2), some (.int a3), o4, some (.int a5), some (.int a6), some (.int x4), o8]) (pc2 := 32) op214_29 rfl (by decide) ex4 rfl rfl ?_
      refine ry_go (tgt := 10) op214_32 (by decide) (by decide) ?_
      exact ih _ _ _ _ h
    · have h := (if_neg b1).symm.trans h
      cases h
      exact hr _ rfl _ _ _
set_option maxHeartbeats 4000000 in
set_option maxRecDepth 20000 in
theorem mo_isDeal_l38_ok (xs : List Int32) {d : Nat} (hd : 1 ≤ d + 1) {a1 : Int32} {a2 : Int32} {a3 : Int32} {r : Option Value} {τ : rn_H} {out : Int32 × rn_Mem} (hr : ∀ (z6 : Int32) (mO : rn_Mem), out = (z6, mO) → ∀ (o0 o1 o2 o3 o4 o5 o7 o8 : Option Value), rn_R xs (d + 1) 214 156 [o0, o1, o2, o3, o4, o5, some (.int z6), o7, o8] [] (rn_SH, mO) r τ) : ∀ (n : Nat) (a5 : Int32) (a6 : Int32) (a7 : Int32) (o4 o8 : Option Value) (m : rn_Mem), mo_isDeal_l38 a1 a2 a3 n a5 a6 a7 m = some out → rn_R xs (d + 1) 214 38 [some (.ref 115), some (.int a1), some (.int a2), some (.int a3), o4, some (.int a5), some (.int a6), some (.int a7), o8] [] (rn_SH, m) r τ := by
  intro n
  induction n with
  | zero =>
    intro _ _ _ _ _ _ h
    cases h
  | succ n ih =>
    intro a5 a6 a7 o4 o8 m h
    unfold mo_isDeal_l38 at h
    try dsimp only at h
    refine rx_p (L2 := [some (.ref 115), some (.int a1), some (.int a2), some (.int a3), o4, some (.int a5), some (.int a6), some (.int a7), o8]) (S2 := [.int a7]) (pc2 := 40) op214_38 rfl rfl ?_
    refine rx_p (L2 := [some (.ref 115), some (.int a1), some (.int a2), some (.int a3), o4, some (.int a5), some (.int a6), some (.int a7), o8]) (S2 := [.int a3, .int a7]) (pc2 := 41) op214_40 rfl rfl ?_
    refine ry_ic_ge (tgt := 156) (pc2 := 44) op214_41 (by decide) (by decide) rfl (fun b9 => ?_) (fun b9 => ?_)
    · have h := (if_pos b9).symm.trans h
      refine rx_p (L2 := [some (.ref 115), some (.int a1), some (.int a2), some (.int a3), o4, some (.int a5), some (.int a6), some (.int a7), o8]) (S2 := [.int a6]) (pc2 := 46) op214_44 rfl rfl ?_
      refine ry_if_eq (tgt := 156) (pc2 := 49) op214_46 (by decide) (by decide) rfl (fun b10 => ?_) (fun b10 => ?_)
      · have h := (if_pos b10).symm.trans h
        cases h
        exact hr _ _ rfl _ _ _ _ _ _ _ _
      · have h := (if_neg b10).symm.trans h
        refine rx_p (L2 := [some (.ref 115), some (.int a1), some (.int a2), some (.int a3), o4, some (.int a5), some (.int a6), some (.int a7), o8]) (S2 := [.int a5]) (pc2 := 51) op214_49 rfl rfl ?_
        refine rx_p (L2 := [some (.ref 115), some (.int a1), some (.int a2), some (.int a3), o4, some (.int a5), some (.int a6), some (.int a7), o8]) (S2 := [.ref 115, .int a5]) (pc2 := 52) op214_51 rfl rfl ?_
        refine rx_gf (v := .ref 116) (pc2 := 55) op214_52 sp_115 rfl rfl rfl ?_
        refine rx_ic (v := 1) (pc2 := 56) op214_55 (by decide) rfl ?_
        refine rx_ia (j := 1) (pc2 := 57) op214_56 (rn_shlt sp_116) sp_116 (by decide) (by decide) rfl ?_
        refine rx_ic (v := 1) (pc2 := 58) op214_57 (by decide) rfl ?_
        refine rx_p (L2 := [some (.ref 115), some (.int a1), some (.int a2), some (.int a3), o4, some (.int a5), some (.int a6), some (.int a7), o8]) (S2 := [.int ((m.1 116 1) - 1), .int a5]) (pc2 := 59) op214_58 rfl rfl ?_
        obtain ⟨k11, h⟩ := rq_chk h
        refine rx_rem (v := rn_rem a5 ((m.1 116 1) - 1)) (pc2 := 60) op214_59 k11 rfl rfl ?_
        obtain ⟨x12, ex12, h⟩ := rq_bv h
        refine rx_s (v := x12) (L2 := [some (.ref 115), some (.int a1), some (.int a2), some (.int a3), o4, some (.int a5), some (.int a6), some (.int a7), some (.int x12)]) (pc2 := 62) op214_60 ex12 rfl rfl ?_
        refine rx_p (L2 := [some (.ref 115), some (.int a1), some (.int a2), some (.int a3), o4, some (.int a5), some (.int a6), some (.int a7), some (.int x12)]) (S2 := [.int a5]) (pc2 := 64) op214_62 rfl rfl ?_
        refine rx_p (L2 := [some (.ref 115), some (.int a1), some (.int a2), some (.int a3), o4, some (.int a5), some (.int a6), some (.int a7), some (.int x12)]) (S2 := [.ref 115, .int a5]) (pc2 := 65) op214_64 rfl rfl ?_
        refine rx_gf (v := .ref 116) (pc2 := 68) op214_65 sp_115 rfl rfl rfl ?_
        refine rx_ic (v := 1) (pc2 := 69) op214_68 (by decide) rfl ?_
        refine rx_ia (j := 1) (pc2 := 70) op214_69 (rn_shlt sp_116) sp_116 (by decide) (by decide) rfl ?_
        refine rx_ic (v := 1) (pc2 := 71) op214_70 (by decide) rfl ?_
        refine rx_p (L2 := [some (.ref 115), some (.int a1), some (.int a2), some (.int a3), o4, some (.int a5), some (.int a6), some (.int a7), some (.int x12)]) (S2 := [.int ((m.1 116 1) - 1), .int a5]) (pc2 := 72) op214_71 rfl rfl ?_
        obtain ⟨k13, h⟩ := rq_chk h
        refine rx_div (v := a5 / ((m.1 116 1) - 1)) (pc2 := 73) op214_72 k13 rfl rfl ?_
        obtain ⟨x15, ex15, h⟩ := rq_bv h
        refine rx_sd (v := x15) (j := 4) (pc2 := 75) op214_73 rfl ex15 (Nat.le_of_ble_eq_true rfl) rfl (fun o14 => ?_)
        show rn_R _ _ _ _ [some (.ref 115), some (.int a1), some (.int a2), some (.int a3), o14, some (.int x15), some (.int a6), some (.int a7), some (.int x12)] _ _ _ _
        refine rx_p (L2 := [some (.ref 115), some (.int a1), some (.int a2), some (.int a3), o14, some (.int x15), some (.int a6), some (.int a7), some (.int x12)]) (S2 := [.int x12]) (pc2 := 77) op214_75 rfl rfl ?_
        refine rx_p (L2 := [some (.ref 115), some (.int a1), some (.int a2), some (.int a3), o14, some (.int x15), some (.int a6), some (.int a7), some (.int x12)]) (S2 := [.int x12, .int x12]) (pc2 := 79) op214_77 rfl rfl ?_
        refine rx_p (L2 := [some (.ref 115), some (.int a1), some (.int a2), some (.int a3), o14, some (.int x15), some (.int a6), some (.int a7), some (.int x12)]) (S2 := [.int a1, .int x12, .int x12]) (pc2 := 80) op214_79 rfl rfl ?_
        obtain ⟨x20, gc40, h⟩ := rq_bind h
        try dsimp only at h
        have c40 : ∀ (o17 o18 o19 : Option Value), rn_R xs (d + 1) 214 88 [some (.ref 115), some (.int a1), some (.int a2), some (.int a3), o17, some (.int x15), o18, some (.int a7), o19] [.int x20, .int x12] (rn_SH, m) r τ := by
          intro o17 o18 o19
          refine rx_p (L2 := [some (.ref 115), some (.int a1), some (.int a2), some (.int a3), o17, some (.int x15), o18, some (.int a7), o19]) (S2 := [.int (x12 + x20)]) (pc2 := 89) op214_88 rfl rfl ?_
          obtain ⟨x21, ex21, h⟩ := rq_bv h
          refine rx_s (v := x21) (L2 := [some (.ref 115), some (.int a1), some (.int a2), some (.int a3), o17, some (.int x15), o18, some (.int a7), some (.int x21)]) (pc2 := 91) op214_89 ex21 rfl rfl ?_
          refine rx_p (L2 := [some (.ref 115), some (.int a1), some (.int a2), some (.int a3), o17, some (.int x15), o18, some (.int a7), some (.int x21)]) (S2 := [.ref 115]) (pc2 := 92) op214_91 rfl rfl ?_
          refine rx_gf (v := .ref 148) (pc2 := 95) op214_92 sp_115 rfl rfl rfl ?_
          refine rx_p (L2 := [some (.ref 115), some (.int a1), some (.int a2), some (.int a3), o17, some (.int x15), o18, some (.int a7), some (.int x21)]) (S2 := [.int x21, .ref 148]) (pc2 := 97) op214_95 rfl rfl ?_
          refine rx_p (L2 := [some (.ref 115), some (.int a1), some (.int a2), some (.int a3), o17, some (.int x15), o18, some (.int a7), some (.int x21)]) (S2 := [.int x21, .ref 148, .int x21, .ref 148]) (pc2 := 98) op214_97 rfl rfl ?_
          obtain ⟨k22, h⟩ := rq_chk h
          refine rx_ia (pc2 := 99) op214_98 (rn_shlt sp_148) sp_148 k22 rfl rfl ?_
          refine rx_ic (v := 1) (pc2 := 100) op214_99 (by decide) rfl ?_
          refine rx_p (L2 := [some (.ref 115), some (.int a1), some (.int a2), some (.int a3), o17, some (.int x15), o18, some (.int a7), some (.int x21)]) (S2 := [.int ((m.1 148 x21.toNatClampNeg) + 1), .int x21, .ref 148]) (pc2 := 101) op214_100 rfl rfl ?_
          obtain ⟨k24, h⟩ := rq_chk h
          obtain ⟨m23, em23, h⟩ := rq_bv h
          refine rx_is (m2 := m23) (pc2 := 102) op214_101 sp_148 k24 rfl em23 rfl ?_
          refine rx_p (L2 := [some (.ref 115), some (.int a1), some (.int a2), some (.int a3), o17, some (.int x15), o18, some (.int a7), some (.int x21)]) (S2 := [.ref 115]) (pc2 := 103) op214_102 rfl rfl ?_
          refine rx_gf (v := .ref 148) (pc2 := 106) op214_103 sp_115 rfl rfl rfl ?_
          refine rx_p (L2 := [some (.ref 115), some (.int a1), some (.int a2), some (.int a3), o17, some (.int x15), o18, some (.int a7), some (.int x21)]) (S2 := [.int x21, .ref 148]) (pc2 := 108) op214_106 rfl rfl ?_
          obtain ⟨k25, h⟩ := rq_chk h
          refine rx_ia (pc2 := 109) op214_108 (rn_shlt sp_148) sp_148 k25 rfl rfl ?_
          refine rx_p (L2 := [some (.ref 115), some (.int a1), some (.int a2), some (.int a3), o17, some (.int x15), o18, some (.int a7), some (.int x21)]) (S2 := [.ref 115, .int (m23.1 148 x21.toNatClampNeg)]) (pc2 := 110) op214_109 rfl rfl ?_
          refine rx_gf (v := .ref 116) (pc2 := 113) op214_110 sp_115 rfl rfl rfl ?_
          refine rx_ic (v := 2) (pc2 := 114) op214_113 (by decide) rfl ?_
          refine rx_ia (j := 2) (pc2 := 115) op214_114 (rn_shlt sp_116) sp_116 (by decide) (by decide) rfl ?_
          refine rx_p (L2 := [some (.ref 115), some (.int a1), some (.int a2), some (.int a3), o17, some (.int x15), o18, some (.int a7), some (.int x21)]) (S2 := [.int a2, .int (m23.1 116 2), .int (m23.1 148 x21.toNatClampNeg)]) (pc2 := 116) op214_115 rfl rfl ?_
          refine rx_p (L2 := [some (.ref 115), some (.int a1), some (.int a2), some (.int a3), o17, some (.int x15), o18, some (.int a7), some (.int x21)]) (S2 := [.int ((m23.1 116 2) - a2), .int (m23.1 148 x21.toNatClampNeg)]) (pc2 := 117) op214_116 rfl rfl ?_
          obtain ⟨⟨x36, m37⟩, gc39, h⟩ := rq_bind h
          try dsimp only at h
          have c39 : ∀ (o33 o34 o35 : Option Value), rn_R xs (d + 1) 214 148 [some (.ref 115), some (.int a1), some (.int a2), some (.int a3), o33, some (.int x15), o34, some (.int a7), o35] [.int x36] (rn_SH, m37) r τ := by
            intro o33 o34 o35
            refine rx_s (L2 := [some (.ref 115), some (.int a1), some (.int a2), some (.int a3), o33, some (.int x15), some (.int x36), some (.int a7), o35]) (pc2 := 150) op214_148 rfl rfl rfl ?_
            obtain ⟨x38, ex38, h⟩ := rq_bv h
            refine rx_inc (w := 1) (v := x38) (L2 := [some (.ref 115), some (.int a1), some (.int a2), some (.int a3), o33, some (.int x15), some (.int x36), some (.int x38), o35]) (pc2 := 153) op214_150 rfl (by decide) ex38 rfl rfl ?_
            refine ry_go (tgt := 38) op214_153 (by decide) (by decide) ?_
            exact ih _ _ _ _ _ _ h
          refine ry_ic_gt (tgt := 147) (pc2 := 120) op214_117 (by decide) (by decide) rfl (fun b26 => ?_) (fun b26 => ?_)
          · have gc39 := (if_pos b26).symm.trans gc39
            refine rx_ic (v := 0) (pc2 := 148) op214_147 (by decide) rfl ?_
            cases gc39
            exact c39 _ _ _
          · have gc39 := (if_neg b26).symm.trans gc39
            refine rx_p (L2 := [some (.ref 115), some (.int a1), some (.int a2), some (.int a3), o17, some (.int x15), o18, some (.int a7), some (.int x21)]) (S2 := [.ref 115]) (pc2 := 121) op214_120 rfl rfl ?_
            refine rx_gf (v := .ref 146) (pc2 := 124) op214_121 sp_115 rfl rfl rfl ?_
            refine rx_p (L2 := [some (.ref 115), some (.int a1), some (.int a2), some (.int a3), o17, some (.int x15), o18, some (.int a7), some (.int x21)]) (S2 := [.int x21, .ref 146]) (pc2 := 126) op214_124 rfl rfl ?_
            obtain ⟨k27, gc39⟩ := rq_chk gc39
            refine rx_ia (pc2 := 127) op214_126 (rn_shlt sp_146) sp_146 k27 rfl rfl ?_
            refine rx_p (L2 := [some (.ref 115), some (.int a1), some (.int a2), some (.int a3), o17, some (.int x15), o18, some (.int a7), some (.int x21)]) (S2 := [.ref 115, .int (m23.1 146 x21.toNatClampNeg)]) (pc2 := 128) op214_127 rfl rfl ?_
            refine rx_gf (v := .ref 147) (pc2 := 131) op214_128 sp_115 rfl rfl rfl ?_
            refine rx_p (L2 := [some (.ref 115), some (.int a1), some (.int a2), some (.int a3), o17, some (.int x15), o18, some (.int a7), some (.int x21)]) (S2 := [.int a7, .ref 147, .int (m23.1 146 x21.toNatClampNeg)]) (pc2 := 133) op214_131 rfl rfl ?_
            obtain ⟨k28, gc39⟩ := rq_chk gc39
            refine rx_ia (pc2 := 134) op214_133 (rn_shlt sp_147) sp_147 k28 rfl rfl ?_
            obtain ⟨⟨r30, m29⟩, f31, gc39⟩ := rq_bind gc39
            try dsimp only at gc39
            refine ry_is (vs := [.int (m23.1 147 a7.toNatClampNeg)]) (T := [.int (m23.1 146 x21.toNatClampNeg)]) (pc2 := 137) op214_134 (by decide) ms_162 (by decide) rfl rfl (Nat.le_of_ble_eq_true rfl) (Nat.le_of_ble_eq_true rfl) (mo_suitOf_ok xs (by omega)  f31) rfl ?_
            show rn_R _ _ _ _ _ [.int r30, .int (m23.1 146 x21.toNatClampNeg)] _ _ _
            refine rx_p (L2 := [some (.ref 115), some (.int a1), some (.int a2), some (.int a3), o17, some (.int x15), o18, some (.int a7), some (.int x21)]) (S2 := [.int ((m23.1 146 x21.toNatClampNeg) >>> (r30 &&& 31))]) (pc2 := 138) op214_137 rfl rfl ?_
            refine rx_ic (v := 1) (pc2 := 139) op214_138 (by decide) rfl ?_
            refine rx_p (L2 := [some (.ref 115), some (.int a1), some (.int a2), some (.int a3), o17, some (.int x15), o18, some (.int a7), some (.int x21)]) (S2 := [.int (((m23.1 146 x21.toNatClampNeg) >>> (r30 &&& 31)) &&& 1)]) (pc2 := 140) op214_139 rfl rfl ?_
            refine ry_if_ne (tgt := 147) (pc2 := 143) op214_140 (by decide) (by decide) rfl (fun b32 => ?_) (fun b32 => ?_)
            · have gc39 := (if_pos b32).symm.trans gc39
              refine rx_ic (v := 1) (pc2 := 144) op214_143 (by decide) rfl ?_
              refine ry_go (tgt := 148) op214_144 (by decide) (by decide) ?_
              cases gc39
              exact c39 _ _ _
            · have gc39 := (if_neg b32).symm.trans gc39
              refine rx_ic (v := 0) (pc2 := 148) op214_147 (by decide) rfl ?_
              cases gc39
              exact c39 _ _ _
        refine ry_ic_lt (tgt := 87) (pc2 := 83) op214_80 (by decide) (by decide) rfl (fun b16 => ?_) (fun b16 => ?_)
        · have gc40 := (if_pos b16).symm.trans gc40
          refine rx_ic (v := 0) (pc2 := 88) op214_87 (by decide) rfl ?_
          cases gc40
          exact c40 _ _ _
        · have gc40 := (if_neg b16).symm.trans gc40
          refine rx_ic (v := 1) (pc2 := 84) op214_83 (by decide) rfl ?_
          refine ry_go (tgt := 88) op214_84 (by decide) (by decide) ?_
          cases gc40
          exact c40 _ _ _
    · have h := (if_neg b9).symm.trans h
      cases h
      exact hr _ _ rfl _ _ _ _ _ _ _ _
set_option maxHeartbeats 4000000 in
set_option maxRecDepth 20000 in
theorem mo_isDeal_ok (xs : List Int32) {d : Nat} (hd : 1 ≤ d) {n : Nat} {a1 : Int32} {a2 : Int32} {a3 : Int32} {a4 : Int32} {m mO : rn_Mem} {rO : Int32} (h : mo_isDeal n a1 a2 a3 a4 m = some (rO, mO)) : rn_R xs d 214 0 (rn_ent 9 [.ref 115, .int a1, .int a2, .int a3, .int a4]) [] (rn_SH, m) (some (.int rO)) (rn_SH, mO) := by
  obtain ⟨d, rfl⟩ : ∃ e, d = e + 1 := ⟨d - 1, by omega⟩
  unfold mo_isDeal at h
  show rn_R xs (d + 1) 214 0 [some (.ref 115), some (.int a1), some (.int a2), some (.int a3), some (.int a4), none, none, none, none] [] (rn_SH, m) (some (.int rO)) (rn_SH, mO)
  refine rx_p (L2 := [some (.ref 115), some (.int a1), some (.int a2), some (.int a3), some (.int a4), none, none, none, none]) (S2 := [.int a4]) (pc2 := 2) op214_0 rfl rfl ?_
  refine rx_s (L2 := [some (.ref 115), some (.int a1), some (.int a2), some (.int a3), some (.int a4), some (.int a4), none, none, none]) (pc2 := 4) op214_2 rfl rfl rfl ?_
  refine rx_ic (v := 1) (pc2 := 5) op214_4 (by decide) rfl ?_
  refine rx_s (L2 := [some (.ref 115), some (.int a1), some (.int a2), some (.int a3), some (.int a4), some (.int a4), some (.int 1), none, none]) (pc2 := 7) op214_5 rfl rfl rfl ?_
  refine rx_ic (v := 0) (pc2 := 8) op214_7 (by decide) rfl ?_
  refine rx_s (L2 := [some (.ref 115), some (.int a1), some (.int a2), some (.int a3), some (.int a4), some (.int a4), some (.int 1), some (.int 0), none]) (pc2 := 10) op214_8 rfl rfl rfl ?_
  obtain ⟨m5, f53, h⟩ := rq_bind h
  refine mo_isDeal_l10_ok xs hd (fun m0 eq => ?_) _ _ _ _ _  f53
  subst eq
  try dsimp only at h
  intro o6 o7 o8
  refine rx_ic (v := 0) (pc2 := 36) op214_35 (by decide) rfl ?_
  refine rx_s (L2 := [some (.ref 115), some (.int a1), some (.int a2), some (.int a3), o6, some (.int a4), some (.int 1), some (.int 0), o8]) (pc2 := 38) op214_36 rfl rfl rfl ?_
  obtain ⟨wf52, f52, h⟩ := rq_bind h
  refine mo_isDeal_l38_ok xs hd (fun x48 m41 eq => ?_) _ _ _ _ _ _ _  f52
  subst eq
  try dsimp only at h
  intro o42 o43 o44 o45 o46 o47 o49 o50
  refine rx_p (L2 := [o42, o43, o44, o45, o46, o47, some (.int x48), o49, o50]) (S2 := [.int x48]) (pc2 := 158) op214_156 rfl rfl ?_
  obtain ⟨k51, h⟩ := rq_chk h
  obtain ⟨rfl, rfl⟩ := rq_ret h
  exact ry_rz (x := x48) op214_158 ms_214 rfl k51
/-! mo_knows -/
theorem op212_0 : rn_op 212 0 = some (.iload_n 1, 1, 0, 0, 0) := by decide +kernel
theorem op212_1 : rn_op 212 1 = some (.i2l, 1, 0, 0, 0) := by decide +kernel
theorem op212_2 : rn_op 212 2 = some (.lconst 0, 1, 0, 0, 0) := by decide +kernel
theorem op212_3 : rn_op 212 3 = some (.ldc2_w 153, 3, 3, 0, 0) := by decide +kernel
theorem op212_6 : rn_op 212 6 = some (.invokestatic 121, 3, 147, 3, 0) := by decide +kernel
theorem op212_9 : rn_op 212 9 = some (.ifCond .eq 15, 3, 0, 0, 0) := by decide +kernel
theorem op212_12 : rn_op 212 12 = some (.iload_n 2, 1, 0, 0, 0) := by decide +kernel
theorem op212_13 : rn_op 212 13 = some (.i2l, 1, 0, 0, 0) := by decide +kernel
theorem op212_14 : rn_op 212 14 = some (.lconst 0, 1, 0, 0, 0) := by decide +kernel
theorem op212_15 : rn_op 212 15 = some (.ldc2_w 153, 3, 3, 0, 0) := by decide +kernel
theorem op212_18 : rn_op 212 18 = some (.invokestatic 121, 3, 147, 3, 0) := by decide +kernel
theorem op212_21 : rn_op 212 21 = some (.ifCond .ne 5, 3, 0, 0, 0) := by decide +kernel
theorem op212_24 : rn_op 212 24 = some (.iconst (-1), 1, 0, 0, 0) := by decide +kernel
theorem op212_25 : rn_op 212 25 = some (.ireturn, 1, 0, 0, 0) := by decide +kernel
theorem op212_26 : rn_op 212 26 = some (.aload_n 0, 1, 0, 0, 0) := by decide +kernel
theorem op212_27 : rn_op 212 27 = some (.getfield 7, 3, 11, 0, 3) := by decide +kernel
theorem op212_30 : rn_op 212 30 = some (.bipush 11, 2, 0, 0, 0) := by decide +kernel
theorem op212_32 : rn_op 212 32 = some (.iaload, 1, 0, 0, 0) := by decide +kernel
theorem op212_33 : rn_op 212 33 = some (.ifCond .ne 6, 3, 0, 0, 0) := by decide +kernel
theorem op212_36 : rn_op 212 36 = some (.bipush (-2), 2, 0, 0, 0) := by decide +kernel
theorem op212_38 : rn_op 212 38 = some (.ireturn, 1, 0, 0, 0) := by decide +kernel
theorem op212_39 : rn_op 212 39 = some (.aload_n 0, 1, 0, 0, 0) := by decide +kernel
theorem op212_40 : rn_op 212 40 = some (.iload_n 1, 1, 0, 0, 0) := by decide +kernel
theorem op212_41 : rn_op 212 41 = some (.invokevirtual 182, 3, 167, 2, 11) := by decide +kernel
theorem op212_44 : rn_op 212 44 = some (.ifCond .eq 13, 3, 0, 0, 0) := by decide +kernel
theorem op212_47 : rn_op 212 47 = some (.iload_n 2, 1, 0, 0, 0) := by decide +kernel
theorem op212_48 : rn_op 212 48 = some (.aload_n 0, 1, 0, 0, 0) := by decide +kernel
theorem op212_49 : rn_op 212 49 = some (.getfield 7, 3, 11, 0, 3) := by decide +kernel
theorem op212_52 : rn_op 212 52 = some (.iconst 2, 1, 0, 0, 0) := by decide +kernel
theorem op212_53 : rn_op 212 53 = some (.iaload, 1, 0, 0, 0) := by decide +kernel
theorem op212_54 : rn_op 212 54 = some (.if_icmp .lt 5, 3, 0, 0, 0) := by decide +kernel
theorem op212_57 : rn_op 212 57 = some (.iconst (-1), 1, 0, 0, 0) := by decide +kernel
theorem op212_58 : rn_op 212 58 = some (.ireturn, 1, 0, 0, 0) := by decide +kernel
theorem op212_59 : rn_op 212 59 = some (.aload_n 0, 1, 0, 0, 0) := by decide +kernel
theorem op212_60 : rn_op 212 60 = some (.invokevirtual 308, 3, 159, 1, 11) := by decide +kernel
theorem op212_63 : rn_op 212 63 = some (.aload_n 0, 1, 0, 0, 0) := by decide +kernel
theorem op212_64 : rn_op 212 64 = some (.iload_n 2, 1, 0, 0, 0) := by decide +kernel
theorem op212_65 : rn_op 212 65 = some (.invokevirtual 333, 3, 213, 2, 11) := by decide +kernel
theorem op212_68 : rn_op 212 68 = some (.iconst 0, 1, 0, 0, 0) := by decide +kernel
theorem op212_69 : rn_op 212 69 = some (.istore_n 3, 1, 0, 0, 0) := by decide +kernel
theorem op212_70 : rn_op 212 70 = some (.iload_n 2, 1, 0, 0, 0) := by decide +kernel
theorem op212_71 : rn_op 212 71 = some (.aload_n 0, 1, 0, 0, 0) := by decide +kernel
theorem op212_72 : rn_op 212 72 = some (.getfield 7, 3, 11, 0, 3) := by decide +kernel
theorem op212_75 : rn_op 212 75 = some (.iconst 1, 1, 0, 0, 0) := by decide +kernel
theorem op212_76 : rn_op 212 76 = some (.iaload, 1, 0, 0, 0) := by decide +kernel
theorem op212_77 : rn_op 212 77 = some (.imul, 1, 0, 0, 0) := by decide +kernel
theorem op212_78 : rn_op 212 78 = some (.istore 4, 2, 0, 0, 0) := by decide +kernel
theorem op212_80 : rn_op 212 80 = some (.iload 4, 2, 0, 0, 0) := by decide +kernel
theorem op212_82 : rn_op 212 82 = some (.aload_n 0, 1, 0, 0, 0) := by decide +kernel
theorem op212_83 : rn_op 212 83 = some (.invokevirtual 167, 3, 155, 1, 11) := by decide +kernel
theorem op212_86 : rn_op 212 86 = some (.if_icmp .ge 35, 3, 0, 0, 0) := by decide +kernel
theorem op212_89 : rn_op 212 89 = some (.aload_n 0, 1, 0, 0, 0) := by decide +kernel
theorem op212_90 : rn_op 212 90 = some (.iload 4, 2, 0, 0, 0) := by decide +kernel
theorem op212_92 : rn_op 212 92 = some (.invokevirtual 285, 3, 200, 2, 11) := by decide +kernel
theorem op212_95 : rn_op 212 95 = some (.iload_n 1, 1, 0, 0, 0) := by decide +kernel
theorem op212_96 : rn_op 212 96 = some (.if_icmp .eq 19, 3, 0, 0, 0) := by decide +kernel
theorem op212_99 : rn_op 212 99 = some (.aload_n 0, 1, 0, 0, 0) := by decide +kernel
theorem op212_100 : rn_op 212 100 = some (.getfield 103, 3, 11, 44, 3) := by decide +kernel
theorem op212_103 : rn_op 212 103 = some (.iload_n 3, 1, 0, 0, 0) := by decide +kernel
theorem op212_104 : rn_op 212 104 = some (.aload_n 0, 1, 0, 0, 0) := by decide +kernel
theorem op212_105 : rn_op 212 105 = some (.getfield 85, 3, 11, 38, 3) := by decide +kernel
theorem op212_108 : rn_op 212 108 = some (.iload 4, 2, 0, 0, 0) := by decide +kernel
theorem op212_110 : rn_op 212 110 = some (.iaload, 1, 0, 0, 0) := by decide +kernel
theorem op212_111 : rn_op 212 111 = some (.iastore, 1, 0, 0, 0) := by decide +kernel
theorem op212_112 : rn_op 212 112 = some (.iinc 3 1, 3, 0, 0, 0) := by decide +kernel
theorem op212_115 : rn_op 212 115 = some (.iinc 4 1, 3, 0, 0, 0) := by decide +kernel
theorem op212_118 : rn_op 212 118 = some (.goto (-38), 3, 0, 0, 0) := by decide +kernel
theorem op212_121 : rn_op 212 121 = some (.iconst 1, 1, 0, 0, 0) := by decide +kernel
theorem op212_122 : rn_op 212 122 = some (.istore 4, 2, 0, 0, 0) := by decide +kernel
theorem op212_124 : rn_op 212 124 = some (.iconst 0, 1, 0, 0, 0) := by decide +kernel
theorem op212_125 : rn_op 212 125 = some (.istore 5, 2, 0, 0, 0) := by decide +kernel
theorem op212_127 : rn_op 212 127 = some (.iload 5, 2, 0, 0, 0) := by decide +kernel
theorem op212_129 : rn_op 212 129 = some (.iload_n 3, 1, 0, 0, 0) := by decide +kernel
theorem op212_130 : rn_op 212 130 = some (.if_icmp .ge 22, 3, 0, 0, 0) := by decide +kernel
theorem op212_133 : rn_op 212 133 = some (.iload 4, 2, 0, 0, 0) := by decide +kernel
theorem op212_135 : rn_op 212 135 = some (.aload_n 0, 1, 0, 0, 0) := by decide +kernel
theorem op212_136 : rn_op 212 136 = some (.getfield 7, 3, 11, 0, 3) := by decide +kernel
theorem op212_139 : rn_op 212 139 = some (.iconst 1, 1, 0, 0, 0) := by decide +kernel
theorem op212_140 : rn_op 212 140 = some (.iaload, 1, 0, 0, 0) := by decide +kernel
theorem op212_141 : rn_op 212 141 = some (.iconst 1, 1, 0, 0, 0) := by decide +kernel
theorem op212_142 : rn_op 212 142 = some (.isub, 1, 0, 0, 0) := by decide +kernel
theorem op212_143 : rn_op 212 143 = some (.imul, 1, 0, 0, 0) := by decide +kernel
theorem op212_144 : rn_op 212 144 = some (.istore 4, 2, 0, 0, 0) := by decide +kernel
theorem op212_146 : rn_op 212 146 = some (.iinc 5 1, 3, 0, 0, 0) := by decide +kernel
theorem op212_149 : rn_op 212 149 = some (.goto (-22), 3, 0, 0, 0) := by decide +kernel
theorem op212_152 : rn_op 212 152 = some (.iconst 0, 1, 0, 0, 0) := by decide +kernel
theorem op212_153 : rn_op 212 153 = some (.istore 5, 2, 0, 0, 0) := by decide +kernel
theorem op212_155 : rn_op 212 155 = some (.iconst 0, 1, 0, 0, 0) := by decide +kernel
theorem op212_156 : rn_op 212 156 = some (.istore 6, 2, 0, 0, 0) := by decide +kernel
theorem op212_158 : rn_op 212 158 = some (.iload 6, 2, 0, 0, 0) := by decide +kernel
theorem op212_160 : rn_op 212 160 = some (.iload 4, 2, 0, 0, 0) := by decide +kernel
theorem op212_162 : rn_op 212 162 = some (.if_icmp .ge 31, 3, 0, 0, 0) := by decide +kernel
theorem op212_165 : rn_op 212 165 = some (.iload 5, 2, 0, 0, 0) := by decide +kernel
theorem op212_167 : rn_op 212 167 = some (.aload_n 0, 1, 0, 0, 0) := by decide +kernel
theorem op212_168 : rn_op 212 168 = some (.iload_n 1, 1, 0, 0, 0) := by decide +kernel
theorem op212_169 : rn_op 212 169 = some (.iload_n 2, 1, 0, 0, 0) := by decide +kernel
theorem op212_170 : rn_op 212 170 = some (.iload_n 3, 1, 0, 0, 0) := by decide +kernel
theorem op212_171 : rn_op 212 171 = some (.iload 6, 2, 0, 0, 0) := by decide +kernel
theorem op212_173 : rn_op 212 173 = some (.invokevirtual 336, 3, 214, 5, 11) := by decide +kernel
theorem op212_176 : rn_op 212 176 = some (.ifCond .eq 7, 3, 0, 0, 0) := by decide +kernel
theorem op212_179 : rn_op 212 179 = some (.iconst 1, 1, 0, 0, 0) := by decide +kernel
theorem op212_180 : rn_op 212 180 = some (.goto 4, 3, 0, 0, 0) := by decide +kernel
theorem op212_183 : rn_op 212 183 = some (.iconst 0, 1, 0, 0, 0) := by decide +kernel
theorem op212_184 : rn_op 212 184 = some (.iadd, 1, 0, 0, 0) := by decide +kernel
theorem op212_185 : rn_op 212 185 = some (.istore 5, 2, 0, 0, 0) := by decide +kernel
theorem op212_187 : rn_op 212 187 = some (.iinc 6 1, 3, 0, 0, 0) := by decide +kernel
theorem op212_190 : rn_op 212 190 = some (.goto (-32), 3, 0, 0, 0) := by decide +kernel
theorem op212_193 : rn_op 212 193 = some (.iload 5, 2, 0, 0, 0) := by decide +kernel
theorem op212_195 : rn_op 212 195 = some (.ireturn, 1, 0, 0, 0) := by decide +kernel
def mo_knows_l80 (a1 : Int32) (a2 : Int32) : Nat → Int32 → Int32 → rn_Mem → Option (Int32 × rn_Mem)
  | 0, _, _, _ => none
  | n + 1, a3, a4, m =>
    (mo_size n m).bind fun (r21, m20) =>
    if a4 < r21 then
      (mo_playerAt n a4 m20).bind fun (r25, m24) =>
      (show Option (Int32 × rn_Mem) from
        if r25 = a1 then
          some (a3, m24)
        else
          if rn_in a4 12 = true then
            if rn_in a3 12 = true then
              (some (rm_i m24 147 a3.toNatClampNeg (m24.1 141 a4.toNatClampNeg))).bind fun (m29 : rn_Mem) =>
              (some (a3 + 1)).bind fun (x31 : Int32) =>
              some (x31, m29)
            else none
          else none).bind fun (x32, m35) =>
      (some (a4 + 1)).bind fun (x36 : Int32) =>
      mo_knows_l80 a1 a2 n x32 x36 m35
    else
      some (a3, m20)
def mo_knows_l127 (a1 : Int32) (a2 : Int32) (a3 : Int32) : Nat → Int32 → Int32 → rn_Mem → Option (Int32 × rn_Mem)
  | 0, _, _, _ => none
  | n + 1, a4, a5, m =>
    if a5 < a3 then
      (some (a4 * ((m.1 116 1) - 1))).bind fun (x44 : Int32) =>
      (some (a5 + 1)).bind fun (x45 : Int32) =>
      mo_knows_l127 a1 a2 a3 n x44 x45 m
    else
      some (a4, m)
def mo_knows_l158 (a1 : Int32) (a2 : Int32) (a3 : Int32) (a4 : Int32) : Nat → Int32 → Int32 → rn_Mem → Option (Int32 × rn_Mem)
  | 0, _, _, _ => none
  | n + 1, a5, a6, m =>
    if a6 < a4 then
      (mo_isDeal n a1 a2 a3 a6 m).bind fun (r52, m51) =>
      (show Option (Int32) from
        if r52 = 0 then
          some (0)
        else
          some (1)).bind fun x56 =>
      (some (a5 + x56)).bind fun (x57 : Int32) =>
      (some (a6 + 1)).bind fun (x58 : Int32) =>
      mo_knows_l158 a1 a2 a3 a4 n x57 x58 m51
    else
      some (a5, m)
def mo_knows (n : Nat) (a1 : Int32) (a2 : Int32) (m : rn_Mem) : Option (Int32 × rn_Mem) :=
  (mo_in n (a1.toInt64) 0 3 m).bind fun (r2, m1) =>
  if r2 = 0 then
    some ((-1), m1)
  else
    (mo_in n (a2.toInt64) 0 3 m1).bind fun (r6, m5) =>
    if r6 = 0 then
      some ((-1), m5)
    else
      if (m5.1 116 11) = 0 then
        some ((-2), m5)
      else
        (mo_isChair n a1 m5).bind fun (r11, m10) =>
        if r11 = 0 then
          some ((-1), m10)
        else
          if a2 < (m10.1 116 2) then
            (mo_takeRow n m10).bind fun m15 =>
            (mo_findLacks n a2 m15).bind fun m17 =>
            (some (a2 * (m17.1 116 1))).bind fun (x19 : Int32) =>
            (mo_knows_l80 a1 a2 n 0 x19 m17).bind fun (x39, m38) =>
            (mo_knows_l127 a1 a2 x39 n 1 0 m38).bind fun (x47, m46) =>
            (mo_knows_l158 a1 a2 x39 x47 n 0 0 m46).bind fun (x66, m60) =>
            some (x66, m60)
          else
            some ((-1), m10)
set_option maxHeartbeats 4000000 in
set_option maxRecDepth 20000 in
theorem mo_knows_l80_ok (xs : List Int32) {d : Nat} (hd : 4 ≤ d + 1) {a1 : Int32} {a2 : Int32} {r : Option Value} {τ : rn_H} {out : Int32 × rn_Mem} (hr : ∀ (z3 : Int32) (mO : rn_Mem), out = (z3, mO) → ∀ (o4 o5 o6 : Option Value), rn_R xs (d + 1) 212 121 [some (.ref 115), some (.int a1), some (.int a2), some (.int z3), o4, o5, o6] [] (rn_SH, mO) r τ) : ∀ (n : Nat) (a3 : Int32) (a4 : Int32) (o5 o6 : Option Value) (m : rn_Mem), mo_knows_l80 a1 a2 n a3 a4 m = some out → rn_R xs (d + 1) 212 80 [some (.ref 115), some (.int a1), some (.int a2), some (.int a3), some (.int a4), o5, o6] [] (rn_SH, m) r τ := by
  intro n
  induction n with
  | zero =>
    intro _ _ _ _ _ h
    cases h
  | succ n ih =>
    intro a3 a4 o5 o6 m h
    unfold mo_knows_l80 at h
    try dsimp only at h
    refine rx_p (L2 := [some (.ref 115), some (.int a1), some (.int a2), some (.int a3), some (.int a4), o5, o6]) (S2 := [.int a4]) (pc2 := 82) op212_80 rfl rfl ?_
    refine rx_p (L2 := [some (.ref 115), some (.int a1), some (.int a2), some (.int a3), some (.int a4), o5, o6]) (S2 := [.ref 115, .int a4]) (pc2 := 83) op212_82 rfl rfl ?_
    obtain ⟨⟨r21, m20⟩, f22, h⟩ := rq_bind h
    try dsimp only at h
    refine ry_iv (p := 115) (vs := []) (T := [.int a4]) (pc2 := 86) op212_83 ms_155 (by decide) rfl rfl (Nat.le_of_ble_eq_true rfl) (Nat.le_of_ble_eq_true rfl) sp_115 (mo_size_ok xs (by omega)  f22) rfl ?_
    show rn_R _ _ _ _ _ [.int r21, .int a4] _ _ _
    refine ry_ic_ge (tgt := 121) (pc2 := 89) op212_86 (by decide) (by decide) rfl (fun b23 => ?_) (fun b23 => ?_)
    · have h := (if_pos b23).symm.trans h
      refine rx_p (L2 := [some (.ref 115), some (.int a1), some (.int a2), some (.int a3), some (.int a4), o5, o6]) (S2 := [.ref 115]) (pc2 := 90) op212_89 rfl rfl ?_
      refine rx_p (L2 := [some (.ref 115), some (.int a1), some (.int a2), some (.int a3), some (.int a4), o5, o6]) (S2 := [.int a4, .ref 115]) (pc2 := 92) op212_90 rfl rfl ?_
      obtain ⟨⟨r25, m24⟩, f26, h⟩ := rq_bind h
      try dsimp only at h
      refine ry_iv (p := 115) (vs := [.int a4]) (T := []) (pc2 := 95) op212_92 ms_200 (by decide) rfl rfl (Nat.le_of_ble_eq_true rfl) (Nat.le_of_ble_eq_true rfl) sp_115 (mo_playerAt_ok xs (by omega)  f26) rfl ?_
      show rn_R _ _ _ _ _ [.int r25] _ _ _
      refine rx_p (L2 := [some (.ref 115), some (.int a1), some (.int a2), some (.int a3), some (.int a4), o5, o6]) (S2 := [.int a1, .int r25]) (pc2 := 96) op212_95 rfl rfl ?_
      obtain ⟨⟨x32, m35⟩, gc37, h⟩ := rq_bind h
      try dsimp only at h
      have c37 : ∀ (o33 o34 : Option Value), rn_R xs (d + 1) 212 115 [some (.ref 115), some (.int a1), some (.int a2), some (.int x32), some (.int a4), o33, o34] [] (rn_SH, m35) r τ := by
        intro o33 o34
        obtain ⟨x36, ex36, h⟩ := rq_bv h
        refine rx_inc (w := 1) (v := x36) (L2 := [some (.ref 115), some (.int a1), some (.int a2), some (.int x32), some (.int x36), o33, o34]) (pc2 := 118) op212_115 rfl (by decide) ex36 rfl rfl ?_
        refine ry_go (tgt := 80) op212_118 (by decide) (by decide) ?_
        exact ih _ _ _ _ _ h
      refine ry_ic_eq (tgt := 115) (pc2 := 99) op212_96 (by decide) (by decide) rfl (fun b27 => ?_) (fun b27 => ?_)
      · have gc37 := (if_pos b27).symm.trans gc37
        cases gc37
        exact c37 _ _
      · have gc37 := (if_neg b27).symm.trans gc37
        refine rx_p (L2 := [some (.ref 115), some (.int a1), some (.int a2), some (.int a3), some (.int a4), o5, o6]) (S2 := [.ref 115]) (pc2 := 100) op212_99 rfl rfl ?_
        refine rx_gf (v := .ref 147) (pc2 := 103) op212_100 sp_115 rfl rfl rfl ?_
        refine rx_p (L2 := [some (.ref 115), some (.int a1), some (.int a2), some (.int a3), some (.int a4), o5, o6]) (S2 := [.int a3, .ref 147]) (pc2 := 104) op212_103 rfl rfl ?_
        refine rx_p (L2 := [some (.ref 115), some (.int a1), some (.int a2), some (.int a3), some (.int a4), o5, o6]) (S2 := [.ref 115, .int a3, .ref 147]) (pc2 := 105) op212_104 rfl rfl ?_
        refine rx_gf (v := .ref 141) (pc2 := 108) op212_105 sp_115 rfl rfl rfl ?_
        refine rx_p (L2 := [some (.ref 115), some (.int a1), some (.int a2), some (.int a3), some (.int a4), o5, o6]) (S2 := [.int a4, .ref 141, .int a3, .ref 147]) (pc2 := 110) op212_108 rfl rfl ?_
        obtain ⟨k28, gc37⟩ := rq_chk gc37
        refine rx_ia (pc2 := 111) op212_110 (rn_shlt sp_141) sp_141 k28 rfl rfl ?_
        obtain ⟨k30, gc37⟩ := rq_chk gc37
        obtain ⟨m29, em29, gc37⟩ := rq_bv gc37
        refine rx_is (m2 := m29) (pc2 := 112) op212_111 sp_147 k30 rfl em29 rfl ?_
        obtain ⟨x31, ex31, gc37⟩ := rq_bv gc37
        refine rx_inc (w := 1) (v := x31) (L2 := [some (.ref 115), some (.int a1), some (.int a2), some (.int x31), some (.int a4), o5, o6]) (pc2 := 115) op212_112 rfl (by decide) ex31 rfl rfl ?_
        cases gc37
        exact c37 _ _
    · have h := (if_neg b23).symm.trans h
      cases h
      exact hr _ _ rfl _ _ _
set_option maxHeartbeats 4000000 in
set_option maxRecDepth 20000 in
theorem mo_knows_l127_ok (xs : List Int32) {d : Nat} (hd : 4 ≤ d + 1) {a1 : Int32} {a2 : Int32} {a3 : Int32} {r : Option Value} {τ : rn_H} {out : Int32 × rn_Mem} (hr : ∀ (z4 : Int32) (mO : rn_Mem), out = (z4, mO) → ∀ (o5 o6 : Option Value), rn_R xs (d + 1) 212 152 [some (.ref 115), some (.int a1), some (.int a2), some (.int a3), some (.int z4), o5, o6] [] (rn_SH, mO) r τ) : ∀ (n : Nat) (a4 : Int32) (a5 : Int32) (o6 : Option Value) (m : rn_Mem), mo_knows_l127 a1 a2 a3 n a4 a5 m = some out → rn_R xs (d + 1) 212 127 [some (.ref 115), some (.int a1), some (.int a2), some (.int a3), some (.int a4), some (.int a5), o6] [] (rn_SH, m) r τ := by
  intro n
  induction n with
  | zero =>
    intro _ _ _ _ h
    cases h
  | succ n ih =>
    intro a4 a5 o6 m h
    unfold mo_knows_l127 at h
    try dsimp only at h
    refine rx_p (L2 := [some (.ref 115), some (.int a1), some (.int a2), some (.int a3), some (.int a4), some (.int a5), o6]) (S2 := [.int a5]) (pc2 := 129) op212_127 rfl rfl ?_
    refine rx_p (L2 := [some (.ref 115), some (.int a1), some (.int a2), some (.int a3), some (.int a4), some (.int a5), o6]) (S2 := [.int a3, .int a5]) (pc2 := 130) op212_129 rfl rfl ?_
    refine ry_ic_ge (tgt := 152) (pc2 := 133) op212_130 (by decide) (by decide) rfl (fun b43 => ?_) (fun b43 => ?_)
    · have h := (if_pos b43).symm.trans h
      refine rx_p (L2 := [some (.ref 115), some (.int a1), some (.int a2), some (.int a3), some (.int a4), some (.int a5), o6]) (S2 := [.int a4]) (pc2 := 135) op212_133 rfl rfl ?_
      refine rx_p (L2 := [some (.ref 115), some (.int a1), some (.int a2), some (.int a3), some (.int a4), some (.int a5), o6]) (S2 := [.ref 115, .int a4]) (pc2 := 136) op212_135 rfl rfl ?_
      refine rx_gf (v := .ref 116) (pc2 := 139) op212_136 sp_115 rfl rfl rfl ?_
      refine rx_ic (v := 1) (pc2 := 140) op212_139 (by decide) rfl ?_
      refine rx_ia (j := 1) (pc2 := 141) op212_140 (rn_shlt sp_116) sp_116 (by decide) (by decide) rfl ?_
      refine rx_ic (v := 1) (pc2 := 142) op212_141 (by decide) rfl ?_
      refine rx_p (L2 := [some (.ref 115), some (.int a1), some (.int a2), some (.int a3), some (.int a4), some (.int a5), o6]) (S2 := [.int ((m.1 116 1) - 1), .int a4]) (pc2 := 143) op212_142 rfl rfl ?_
      refine rx_p (L2 := [some (.ref 115), some (.int a1), some (.int a2), some (.int a3), some (.int a4), some (.int a5), o6]) (S2 := [.int (a4 * ((m.1 116 1) - 1))]) (pc2 := 144) op212_143 rfl rfl ?_
      obtain ⟨x44, ex44, h⟩ := rq_bv h
      refine rx_s (v := x44) (L2 := [some (.ref 115), some (.int a1), some (.int a2), some (.int a3), some (.int x44), some (.int a5), o6]) (pc2 := 146) op212_144 ex44 rfl rfl ?_
      obtain ⟨x45, ex45, h⟩ := rq_bv h
      refine rx_inc (w := 1) (v := x45) (L2 := [some (.ref 115), some (.int a1), some (.int a2), some (.int a3), some (.int x44), some (.int x45), o6]) (pc2 := 149) op212_146 rfl (by decide) ex45 rfl rfl ?_
      refine ry_go (tgt := 127) op212_149 (by decide) (by decide) ?_
      exact ih _ _ _ _ h
    · have h := (if_neg b43).symm.trans h
      cases h
      exact hr _ _ rfl _ _
set_option maxHeartbeats 4000000 in
set_option maxRecDepth 20000 in
theorem mo_knows_l158_ok (xs : List Int32) {d : Nat} (hd : 4 ≤ d + 1) {a1 : Int32} {a2 : Int32} {a3 : Int32} {a4 : Int32} {r : Option Value} {τ : rn_H} {out : Int32 × rn_Mem} (hr : ∀ (z5 : Int32) (mO : rn_Mem), out = (z5, mO) → ∀ (o0 o1 o2 o3 o4 o6 : Option Value), rn_R xs (d + 1) 212 193 [o0, o1, o2, o3, o4, some (.int z5), o6] [] (rn_SH, mO) r τ) : ∀ (n : Nat) (a5 : Int32) (a6 : Int32) (m : rn_Mem), mo_knows_l158 a1 a2 a3 a4 n a5 a6 m = some out → rn_R xs (d + 1) 212 158 [some (.ref 115), some (.int a1), some (.int a2), some (.int a3), some (.int a4), some (.int a5), some (.int a6)] [] (rn_SH, m) r τ := by
  intro n
  induction n with
  | zero =>
    intro _ _ _ h
    cases h
  | succ n ih =>
    intro a5 a6 m h
    unfold mo_knows_l158 at h
    try dsimp only at h
    refine rx_p (L2 := [some (.ref 115), some (.int a1), some (.int a2), some (.int a3), some (.int a4), some (.int a5), some (.int a6)]) (S2 := [.int a6]) (pc2 := 160) op212_158 rfl rfl ?_
    refine rx_p (L2 := [some (.ref 115), some (.int a1), some (.int a2), some (.int a3), some (.int a4), some (.int a5), some (.int a6)]) (S2 := [.int a4, .int a6]) (pc2 := 162) op212_160 rfl rfl ?_
    refine ry_ic_ge (tgt := 193) (pc2 := 165) op212_162 (by decide) (by decide) rfl (fun b50 => ?_) (fun b50 => ?_)
    · have h := (if_pos b50).symm.trans h
      refine rx_p (L2 := [some (.ref 115), some (.int a1), some (.int a2), some (.int a3), some (.int a4), some (.int a5), some (.int a6)]) (S2 := [.int a5]) (pc2 := 167) op212_165 rfl rfl ?_
      refine rx_p (L2 := [some (.ref 115), some (.int a1), some (.int a2), some (.int a3), some (.int a4), some (.int a5), some (.int a6)]) (S2 := [.ref 115, .int a5]) (pc2 := 168) op212_167 rfl rfl ?_
      refine rx_p (L2 := [some (.ref 115), some (.int a1), some (.int a2), some (.int a3), some (.int a4), some (.int a5), some (.int a6)]) (S2 := [.int a1, .ref 115, .int a5]) (pc2 := 169) op212_168 rfl rfl ?_
      refine rx_p (L2 := [some (.ref 115), some (.int a1), some (.int a2), some (.int a3), some (.int a4), some (.int a5), some (.int a6)]) (S2 := [.int a2, .int a1, .ref 115, .int a5]) (pc2 := 170) op212_169 rfl rfl ?_
      refine rx_p (L2 := [some (.ref 115), some (.int a1), some (.int a2), some (.int a3), some (.int a4), some (.int a5), some (.int a6)]) (S2 := [.int a3, .int a2, .int a1, .ref 115, .int a5]) (pc2 := 171) op212_170 rfl rfl ?_
      refine rx_p (L2 := [some (.ref 115), some (.int a1), some (.int a2), some (.int a3), some (.int a4), some (.int a5), some (.int a6)]) (S2 := [.int a6, .int a3, .int a2, .int a1, .ref 115, .int a5]) (pc2 := 173) op212_171 rfl rfl ?_
      obtain ⟨⟨r52, m51⟩, f53, h⟩ := rq_bind h
      try dsimp only at h
      refine ry_iv (p := 115) (vs := [.int a1, .int a2, .int a3, .int a6]) (T := [.int a5]) (pc2 := 176) op212_173 ms_214 (by decide) rfl rfl (Nat.le_of_ble_eq_true rfl) (Nat.le_of_ble_eq_true rfl) sp_115 (mo_isDeal_ok xs (by omega)  f53) rfl ?_
      show rn_R _ _ _ _ _ [.int r52, .int a5] _ _ _
      obtain ⟨x56, gc59, h⟩ := rq_bind h
      try dsimp only at h
      have c59 : ∀ (o55 : Option Value), rn_R xs (d + 1) 212 184 [some (.ref 115), some (.int a1), some (.int a2), some (.int a3), some (.int a4), o55, some (.int a6)] [.int x56, .int a5] (rn_SH, m51) r τ := by
        intro o55
        refine rx_p (L2 := [some (.ref 115), some (.int a1), some (.int a2), some (.int a3), some (.int a4), o55, some (.int a6)]) (S2 := [.int (a5 + x56)]) (pc2 := 185) op212_184 rfl rfl ?_
        obtain ⟨x57, ex57, h⟩ := rq_bv h
        refine rx_s (v := x57) (L2 := [some (.ref 115), some (.int a1), some (.int a2), some (.int a3), some (.int a4), some (.int x57), some (.int a6)]) (pc2 := 187) op212_185 ex57 rfl rfl ?_
        obtain ⟨x58, ex58, h⟩ := rq_bv h
        refine rx_inc (w := 1) (v := x58) (L2 := [some (.ref 115), some (.int a1), some (.int a2), some (.int a3), some (.int a4), some (.int x57), some (.int x58)]) (pc2 := 190) op212_187 rfl (by decide) ex58 rfl rfl ?_
        refine ry_go (tgt := 158) op212_190 (by decide) (by decide) ?_
        exact ih _ _ _ h
      refine ry_if_eq (tgt := 183) (pc2 := 179) op212_176 (by decide) (by decide) rfl (fun b54 => ?_) (fun b54 => ?_)
      · have gc59 := (if_pos b54).symm.trans gc59
        refine rx_ic (v := 0) (pc2 := 184) op212_183 (by decide) rfl ?_
        cases gc59
        exact c59 _
      · have gc59 := (if_neg b54).symm.trans gc59
        refine rx_ic (v := 1) (pc2 := 180) op212_179 (by decide) rfl ?_
        refine ry_go (tgt := 184) op212_180 (by decide) (by decide) ?_
        cases gc59
        exact c59 _
    · have h := (if_neg b50).symm.trans h
      cases h
      exact hr _ _ rfl _ _ _ _ _ _
set_option maxHeartbeats 4000000 in
set_option maxRecDepth 20000 in
theorem mo_knows_ok (xs : List Int32) {d : Nat} (hd : 4 ≤ d) {n : Nat} {a1 : Int32} {a2 : Int32} {m mO : rn_Mem} {rO : Int32} (h : mo_knows n a1 a2 m = some (rO, mO)) : rn_R xs d 212 0 (rn_ent 7 [.ref 115, .int a1, .int a2]) [] (rn_SH, m) (some (.int rO)) (rn_SH, mO) := by
  obtain ⟨d, rfl⟩ : ∃ e, d = e + 1 := ⟨d - 1, by omega⟩
  unfold mo_knows at h
  show rn_R xs (d + 1) 212 0 [some (.ref 115), some (.int a1), some (.int a2), none, none, none, none] [] (rn_SH, m) (some (.int rO)) (rn_SH, mO)
  refine rx_p (L2 := [some (.ref 115), some (.int a1), some (.int a2), none, none, none, none]) (S2 := [.int a1]) (pc2 := 1) op212_0 rfl rfl ?_
  refine rx_p (L2 := [some (.ref 115), some (.int a1), some (.int a2), none, none, none, none]) (S2 := [.long (a1.toInt64)]) (pc2 := 2) op212_1 rfl rfl ?_
  refine rx_lc (v := 0) (pc2 := 3) op212_2 (by decide) rfl ?_
  refine rx_ld2 (v := 3) (pc2 := 6) op212_3 (by decide) rfl ?_
  obtain ⟨⟨r2, m1⟩, f3, h⟩ := rq_bind h
  try dsimp only at h
  refine ry_is (vs := [.long (a1.toInt64), .long 0, .long 3]) (T := []) (pc2 := 9) op212_6 (by decide) ms_147 (by decide) rfl rfl (Nat.le_of_ble_eq_true rfl) (Nat.le_of_ble_eq_true rfl) (mo_in_ok xs (by omega)  f3) rfl ?_
  show rn_R _ _ _ _ _ [.int r2] _ _ _
  refine ry_if_eq (tgt := 24) (pc2 := 12) op212_9 (by decide) (by decide) rfl (fun b4 => ?_) (fun b4 => ?_)
  · have h := (if_pos b4).symm.trans h
    refine rx_ic (v := (-1)) (pc2 := 25) op212_24 (by decide) rfl ?_
    obtain ⟨rfl, rfl⟩ := rq_ret h
    exact ry_ri op212_25 ms_212 rfl
  · have h := (if_neg b4).symm.trans h
    refine rx_p (L2 := [some (.ref 115), some (.int a1), some (.int a2), none, none, none, none]) (S2 := [.int a2]) (pc2 := 13) op212_12 rfl rfl ?_
    refine rx_p (L2 := [some (.ref 115), some (.int a1), some (.int a2), none, none, none, none]) (S2 := [.long (a2.toInt64)]) (pc2 := 14) op212_13 rfl rfl ?_
    refine rx_lc (v := 0) (pc2 := 15) op212_14 (by decide) rfl ?_
    refine rx_ld2 (v := 3) (pc2 := 18) op212_15 (by decide) rfl ?_
    obtain ⟨⟨r6, m5⟩, f7, h⟩ := rq_bind h
    try dsimp only at h
    refine ry_is (vs := [.long (a2.toInt64), .long 0, .long 3]) (T := []) (pc2 := 21) op212_18 (by decide) ms_147 (by decide) rfl rfl (Nat.le_of_ble_eq_true rfl) (Nat.le_of_ble_eq_true rfl) (mo_in_ok xs (by omega)  f7) rfl ?_
    show rn_R _ _ _ _ _ [.int r6] _ _ _
    refine ry_if_ne (tgt := 26) (pc2 := 24) op212_21 (by decide) (by decide) rfl (fun b8 => ?_) (fun b8 => ?_)
    · have h := (if_pos b8).symm.trans h
      refine rx_ic (v := (-1)) (pc2 := 25) op212_24 (by decide) rfl ?_
      obtain ⟨rfl, rfl⟩ := rq_ret h
      exact ry_ri op212_25 ms_212 rfl
    · have h := (if_neg b8).symm.trans h
      refine rx_p (L2 := [some (.ref 115), some (.int a1), some (.int a2), none, none, none, none]) (S2 := [.ref 115]) (pc2 := 27) op212_26 rfl rfl ?_
      refine rx_gf (v := .ref 116) (pc2 := 30) op212_27 sp_115 rfl rfl rfl ?_
      refine rx_bp (v := 11) (pc2 := 32) op212_30 (by decide) rfl ?_
      refine rx_ia (j := 11) (pc2 := 33) op212_32 (rn_shlt sp_116) sp_116 (by decide) (by decide) rfl ?_
      refine ry_if_ne (tgt := 39) (pc2 := 36) op212_33 (by decide) (by decide) rfl (fun b9 => ?_) (fun b9 => ?_)
      · have h := (if_pos b9).symm.trans h
        refine rx_bp (v := (-2)) (pc2 := 38) op212_36 (by decide) rfl ?_
        obtain ⟨rfl, rfl⟩ := rq_ret h
        exact ry_ri op212_38 ms_212 rfl
      · have h := (if_neg b9).symm.trans h
        refine rx_p (L2 := [some (.ref 115), some (.int a1), some (.int a2), none, none, none, none]) (S2 := [.ref 115]) (pc2 := 40) op212_39 rfl rfl ?_
        refine rx_p (L2 := [some (.ref 115), some (.int a1), some (.int a2), none, none, none, none]) (S2 := [.int a1, .ref 115]) (pc2 := 41) op212_40 rfl rfl ?_
        obtain ⟨⟨r11, m10⟩, f12, h⟩ := rq_bind h
        try dsimp only at h
        refine ry_iv (p := 115) (vs := [.int a1]) (T := []) (pc2 := 44) op212_41 ms_167 (by decide) rfl rfl (Nat.le_of_ble_eq_true rfl) (Nat.le_of_ble_eq_true rfl) sp_115 (mo_isChair_ok xs (by omega)  f12) rfl ?_
        show rn_R _ _ _ _ _ [.int r11] _ _ _
        refine ry_if_eq (tgt := 57) (pc2 := 47) op212_44 (by decide) (by decide) rfl (fun b13 => ?_) (fun b13 => ?_)
        · have h := (if_pos b13).symm.trans h
          refine rx_ic (v := (-1)) (pc2 := 58) op212_57 (by decide) rfl ?_
          obtain ⟨rfl, rfl⟩ := rq_ret h
          exact ry_ri op212_58 ms_212 rfl
        · have h := (if_neg b13).symm.trans h
          refine rx_p (L2 := [some (.ref 115), some (.int a1), some (.int a2), none, none, none, none]) (S2 := [.int a2]) (pc2 := 48) op212_47 rfl rfl ?_
          refine rx_p (L2 := [some (.ref 115), some (.int a1), some (.int a2), none, none, none, none]) (S2 := [.ref 115, .int a2]) (pc2 := 49) op212_48 rfl rfl ?_
          refine rx_gf (v := .ref 116) (pc2 := 52) op212_49 sp_115 rfl rfl rfl ?_
          refine rx_ic (v := 2) (pc2 := 53) op212_52 (by decide) rfl ?_
          refine rx_ia (j := 2) (pc2 := 54) op212_53 (rn_shlt sp_116) sp_116 (by decide) (by decide) rfl ?_
          refine ry_ic_lt (tgt := 59) (pc2 := 57) op212_54 (by decide) (by decide) rfl (fun b14 => ?_) (fun b14 => ?_)
          · have h := (if_pos b14).symm.trans h
            refine rx_p (L2 := [some (.ref 115), some (.int a1), some (.int a2), none, none, none, none]) (S2 := [.ref 115]) (pc2 := 60) op212_59 rfl rfl ?_
            obtain ⟨m15, f16, h⟩ := rq_bind h
            try dsimp only at h
            refine ry_iv (p := 115) (vs := []) (T := []) (pc2 := 63) op212_60 ms_159 (by decide) rfl rfl (Nat.le_of_ble_eq_true rfl) (Nat.le_of_ble_eq_true rfl) sp_115 (mo_takeRow_ok xs (by omega)  f16) rfl ?_
            show rn_R _ _ _ _ _ [] _ _ _
            refine rx_p (L2 := [some (.ref 115), some (.int a1), some (.int a2), none, none, none, none]) (S2 := [.ref 115]) (pc2 := 64) op212_63 rfl rfl ?_
            refine rx_p (L2 := [some (.ref 115), some (.int a1), some (.int a2), none, none, none, none]) (S2 := [.int a2, .ref 115]) (pc2 := 65) op212_64 rfl rfl ?_
            obtain ⟨m17, f18, h⟩ := rq_bind h
            try dsimp only at h
            refine ry_iv (p := 115) (vs := [.int a2]) (T := []) (pc2 := 68) op212_65 ms_213 (by decide) rfl rfl (Nat.le_of_ble_eq_true rfl) (Nat.le_of_ble_eq_true rfl) sp_115 (mo_findLacks_ok xs (by omega)  f18) rfl ?_
            show rn_R _ _ _ _ _ [] _ _ _
            refine rx_ic (v := 0) (pc2 := 69) op212_68 (by decide) rfl ?_
            refine rx_s (L2 := [some (.ref 115), some (.int a1), some (.int a2), some (.int 0), none, none, none]) (pc2 := 70) op212_69 rfl rfl rfl ?_
            refine rx_p (L2 := [some (.ref 115), some (.int a1), some (.int a2), some (.int 0), none, none, none]) (S2 := [.int a2]) (pc2 := 71) op212_70 rfl rfl ?_
            refine rx_p (L2 := [some (.ref 115), some (.int a1), some (.int a2), some (.int 0), none, none, none]) (S2 := [.ref 115, .int a2]) (pc2 := 72) op212_71 rfl rfl ?_
            refine rx_gf (v := .ref 116) (pc2 := 75) op212_72 sp_115 rfl rfl rfl ?_
            refine rx_ic (v := 1) (pc2 := 76) op212_75 (by decide) rfl ?_
            refine rx_ia (j := 1) (pc2 := 77) op212_76 (rn_shlt sp_116) sp_116 (by decide) (by decide) rfl ?_
            refine rx_p (L2 := [some (.ref 115), some (.int a1), some (.int a2), some (.int 0), none, none, none]) (S2 := [.int (a2 * (m17.1 116 1))]) (pc2 := 78) op212_77 rfl rfl ?_
            obtain ⟨x19, ex19, h⟩ := rq_bv h
            refine rx_s (v := x19) (L2 := [some (.ref 115), some (.int a1), some (.int a2), some (.int 0), some (.int x19), none, none]) (pc2 := 80) op212_78 ex19 rfl rfl ?_
            obtain ⟨wf70, f70, h⟩ := rq_bind h
            refine mo_knows_l80_ok xs hd (fun x39 m38 eq => ?_) _ _ _ _ _ _  f70
            subst eq
            try dsimp only at h
            intro o40 o41 o42
            refine rx_ic (v := 1) (pc2 := 122) op212_121 (by decide) rfl ?_
            refine rx_s (L2 := [some (.ref 115), some (.int a1), some (.int a2), some (.int x39), some (.int 1), o41, o42]) (pc2 := 124) op212_122 rfl rfl rfl ?_
            refine rx_ic (v := 0) (pc2 := 125) op212_124 (by decide) rfl ?_
            refine rx_s (L2 := [some (.ref 115), some (.int a1), some (.int a2), some (.int x39), some (.int 1), some (.int 0), o42]) (pc2 := 127) op212_125 rfl rfl rfl ?_
            obtain ⟨wf69, f69, h⟩ := rq_bind h
            refine mo_knows_l127_ok xs hd (fun x47 m46 eq => ?_) _ _ _ _ _  f69
            subst eq
            try dsimp only at h
            intro o48 o49
            refine rx_ic (v := 0) (pc2 := 153) op212_152 (by decide) rfl ?_
            refine rx_s (L2 := [some (.ref 115), some (.int a1), some (.int a2), some (.int x39), some (.int x47), some (.int 0), o49]) (pc2 := 155) op212_153 rfl rfl rfl ?_
            refine rx_ic (v := 0) (pc2 := 156) op212_155 (by decide) rfl ?_
            refine rx_s (L2 := [some (.ref 115), some (.int a1), some (.int a2), some (.int x39), some (.int x47), some (.int 0), some (.int 0)]) (pc2 := 158) op212_156 rfl rfl rfl ?_
            obtain ⟨wf68, f68, h⟩ := rq_bind h
            refine mo_knows_l158_ok xs hd (fun x66 m60 eq => ?_) _ _ _ _  f68
            subst eq
            try dsimp only at h
            intro o61 o62 o63 o64 o65 o67
            refine rx_p (L2 := [o61, o62, o63, o64, o65, some (.int x66), o67]) (S2 := [.int x66]) (pc2 := 195) op212_193 rfl rfl ?_
            obtain ⟨rfl, rfl⟩ := rq_ret h
            exact ry_ri op212_195 ms_212 rfl
          · have h := (if_neg b14).symm.trans h
            refine rx_ic (v := (-1)) (pc2 := 58) op212_57 (by decide) rfl ?_
            obtain ⟨rfl, rfl⟩ := rq_ret h
            exact ry_ri op212_58 ms_212 rfl
/-! mo_image -/
theorem op215_0 : rn_op 215 0 = some (.iconst 0, 1, 0, 0, 0) := by decide +kernel
theorem op215_1 : rn_op 215 1 = some (.istore_n 1, 1, 0, 0, 0) := by decide +kernel
theorem op215_2 : rn_op 215 2 = some (.iload_n 1, 1, 0, 0, 0) := by decide +kernel
theorem op215_3 : rn_op 215 3 = some (.bipush 101, 2, 0, 0, 0) := by decide +kernel
theorem op215_5 : rn_op 215 5 = some (.if_icmp .ge 21, 3, 0, 0, 0) := by decide +kernel
theorem op215_8 : rn_op 215 8 = some (.aload_n 0, 1, 0, 0, 0) := by decide +kernel
theorem op215_9 : rn_op 215 9 = some (.getfield 109, 3, 11, 47, 3) := by decide +kernel
theorem op215_12 : rn_op 215 12 = some (.iload_n 1, 1, 0, 0, 0) := by decide +kernel
theorem op215_13 : rn_op 215 13 = some (.aload_n 0, 1, 0, 0, 0) := by decide +kernel
theorem op215_14 : rn_op 215 14 = some (.getfield 7, 3, 11, 0, 3) := by decide +kernel
theorem op215_17 : rn_op 215 17 = some (.iload_n 1, 1, 0, 0, 0) := by decide +kernel
theorem op215_18 : rn_op 215 18 = some (.iaload, 1, 0, 0, 0) := by decide +kernel
theorem op215_19 : rn_op 215 19 = some (.iastore, 1, 0, 0, 0) := by decide +kernel
theorem op215_20 : rn_op 215 20 = some (.iinc 1 1, 3, 0, 0, 0) := by decide +kernel
theorem op215_23 : rn_op 215 23 = some (.goto (-21), 3, 0, 0, 0) := by decide +kernel
theorem op215_26 : rn_op 215 26 = some (.aload_n 0, 1, 0, 0, 0) := by decide +kernel
theorem op215_27 : rn_op 215 27 = some (.iconst 1, 1, 0, 0, 0) := by decide +kernel
theorem op215_28 : rn_op 215 28 = some (.putfield 342, 3, 11, 46, 2) := by decide +kernel
theorem op215_31 : rn_op 215 31 = some (.iconst 1, 1, 0, 0, 0) := by decide +kernel
theorem op215_32 : rn_op 215 32 = some (.ireturn, 1, 0, 0, 0) := by decide +kernel
def mo_image_l2  : Nat → Int32 → rn_Mem → Option (rn_Mem)
  | 0, _, _ => none
  | n + 1, a1, m =>
    if a1 < 101 then
      if rn_in a1 101 = true then
        if rn_in a1 101 = true then
          (some (rm_i m 149 a1.toNatClampNeg (m.1 116 a1.toNatClampNeg))).bind fun (m3 : rn_Mem) =>
          (some (a1 + 1)).bind fun (x5 : Int32) =>
          mo_image_l2 n x5 m3
        else none
      else none
    else
      some m
def mo_image (n : Nat)  (m : rn_Mem) : Option (Int32 × rn_Mem) :=
  (mo_image_l2 n 0 m).bind fun m6 =>
  (some (rm_i m6 115 46 1)).bind fun (m8 : rn_Mem) =>
  some (1, m8)
set_option maxHeartbeats 4000000 in
set_option maxRecDepth 20000 in
theorem mo_image_l2_ok (xs : List Int32) {d : Nat} {r : Option Value} {τ : rn_H} {out : rn_Mem} (hr : ∀ (mO : rn_Mem), out = mO → ∀ (o1 : Option Value), rn_R xs d 215 26 [some (.ref 115), o1] [] (rn_SH, mO) r τ) : ∀ (n : Nat) (a1 : Int32) (m : rn_Mem), mo_image_l2 n a1 m = some out → rn_R xs d 215 2 [some (.ref 115), some (.int a1)] [] (rn_SH, m) r τ := by
  intro n
  induction n with
  | zero =>
    intro _ _ h
    cases h
  | succ n ih =>
    intro a1 m h
    unfold mo_image_l2 at h
    try dsimp only at h
    refine rx_p (L2 := [some (.ref 115), some (.int a1)]) (S2 := [.int a1]) (pc2 := 3) op215_2 rfl rfl ?_
    refine rx_bp (v := 101) (pc2 := 5) op215_3 (by decide) rfl ?_
    refine ry_ic_ge (tgt := 26) (pc2 := 8) op215_5 (by decide) (by decide) rfl (fun b1 => ?_) (fun b1 => ?_)
    · have h := (if_pos b1).symm.trans h
      refine rx_p (L2 := [some (.ref 115), some (.int a1)]) (S2 := [.ref 115]) (pc2 := 9) op215_8 rfl rfl ?_
      refine rx_gf (v := .ref 149) (pc2 := 12) op215_9 sp_115 rfl rfl rfl ?_
      refine rx_p (L2 := [some (.ref 115), some (.int a1)]) (S2 := [.int a1, .ref 149]) (pc2 := 13) op215_12 rfl rfl ?_
      refine rx_p (L2 := [some (.ref 115), some (.int a1)]) (S2 := [.ref 115, .int a1, .ref 149]) (pc2 := 14) op215_13 rfl rfl ?_
      refine rx_gf (v := .ref 116) (pc2 := 17) op215_14 sp_115 rfl rfl rfl ?_
      refine rx_p (L2 := [some (.ref 115), some (.int a1)]) (S2 := [.int a1, .ref 116, .int a1, .ref 149]) (pc2 := 18) op215_17 rfl rfl ?_
      obtain ⟨k2, h⟩ := rq_chk h
      refine rx_ia (pc2 := 19) op215_18 (rn_shlt sp_116) sp_116 k2 rfl rfl ?_
      obtain ⟨k4, h⟩ := rq_chk h
      obtain ⟨m3, em3, h⟩ := rq_bv h
      refine rx_is (m2 := m3) (pc2 := 20) op215_19 sp_149 k4 rfl em3 rfl ?_
      obtain ⟨x5, ex5, h⟩ := rq_bv h
      refine rx_inc (w := 1) (v := x5) (L2 := [some (.ref 115), some (.int x5)]) (pc2 := 23) op215_20 rfl (by decide) ex5 rfl rfl ?_
      refine ry_go (tgt := 2) op215_23 (by decide) (by decide) ?_
      exact ih _ _ h
    · have h := (if_neg b1).symm.trans h
      cases h
      exact hr _ rfl _
set_option maxHeartbeats 4000000 in
set_option maxRecDepth 20000 in
theorem mo_image_ok (xs : List Int32) {d : Nat} (hd : 0 ≤ d) {n : Nat} {m mO : rn_Mem} {rO : Int32} (h : mo_image n  m = some (rO, mO)) : rn_R xs d 215 0 (rn_ent 2 [.ref 115]) [] (rn_SH, m) (some (.int rO)) (rn_SH, mO) := by
  unfold mo_image at h
  show rn_R xs d 215 0 [some (.ref 115), none] [] (rn_SH, m) (some (.int rO)) (rn_SH, mO)
  refine rx_ic (v := 0) (pc2 := 1) op215_0 (by decide) rfl ?_
  refine rx_s (L2 := [some (.ref 115), some (.int 0)]) (pc2 := 2) op215_1 rfl rfl rfl ?_
  obtain ⟨m6, f9, h⟩ := rq_bind h
  refine mo_image_l2_ok xs (fun m0 eq => ?_) _ _ _  f9
  subst eq
  try dsimp only at h
  intro o7
  refine rx_p (L2 := [some (.ref 115), o7]) (S2 := [.ref 115]) (pc2 := 27) op215_26 rfl rfl ?_
  refine rx_ic (v := 1) (pc2 := 28) op215_27 (by decide) rfl ?_
  obtain ⟨m8, em8, h⟩ := rq_bv h
  refine rx_pz (m2 := m8) (pc2 := 31) op215_28 sp_115 rfl (by decide) em8 rfl ?_
  refine rx_ic (v := 1) (pc2 := 32) op215_31 (by decide) rfl ?_
  obtain ⟨rfl, rfl⟩ := rq_ret h
  exact ry_ri op215_32 ms_215 rfl
/-! mo_restore -/
theorem op216_0 : rn_op 216 0 = some (.aload_n 0, 1, 0, 0, 0) := by decide +kernel
theorem op216_1 : rn_op 216 1 = some (.getfield 342, 3, 11, 46, 2) := by decide +kernel
theorem op216_4 : rn_op 216 4 = some (.ifCond .ne 6, 3, 0, 0, 0) := by decide +kernel
theorem op216_7 : rn_op 216 7 = some (.bipush (-4), 2, 0, 0, 0) := by decide +kernel
theorem op216_9 : rn_op 216 9 = some (.ireturn, 1, 0, 0, 0) := by decide +kernel
theorem op216_10 : rn_op 216 10 = some (.iconst 0, 1, 0, 0, 0) := by decide +kernel
theorem op216_11 : rn_op 216 11 = some (.istore_n 1, 1, 0, 0, 0) := by decide +kernel
theorem op216_12 : rn_op 216 12 = some (.iload_n 1, 1, 0, 0, 0) := by decide +kernel
theorem op216_13 : rn_op 216 13 = some (.bipush 101, 2, 0, 0, 0) := by decide +kernel
theorem op216_15 : rn_op 216 15 = some (.if_icmp .ge 21, 3, 0, 0, 0) := by decide +kernel
theorem op216_18 : rn_op 216 18 = some (.aload_n 0, 1, 0, 0, 0) := by decide +kernel
theorem op216_19 : rn_op 216 19 = some (.getfield 7, 3, 11, 0, 3) := by decide +kernel
theorem op216_22 : rn_op 216 22 = some (.iload_n 1, 1, 0, 0, 0) := by decide +kernel
theorem op216_23 : rn_op 216 23 = some (.aload_n 0, 1, 0, 0, 0) := by decide +kernel
theorem op216_24 : rn_op 216 24 = some (.getfield 109, 3, 11, 47, 3) := by decide +kernel
theorem op216_27 : rn_op 216 27 = some (.iload_n 1, 1, 0, 0, 0) := by decide +kernel
theorem op216_28 : rn_op 216 28 = some (.iaload, 1, 0, 0, 0) := by decide +kernel
theorem op216_29 : rn_op 216 29 = some (.iastore, 1, 0, 0, 0) := by decide +kernel
theorem op216_30 : rn_op 216 30 = some (.iinc 1 1, 3, 0, 0, 0) := by decide +kernel
theorem op216_33 : rn_op 216 33 = some (.goto (-21), 3, 0, 0, 0) := by decide +kernel
theorem op216_36 : rn_op 216 36 = some (.iconst 1, 1, 0, 0, 0) := by decide +kernel
theorem op216_37 : rn_op 216 37 = some (.ireturn, 1, 0, 0, 0) := by decide +kernel
def mo_restore_l12  : Nat → Int32 → rn_Mem → Option (rn_Mem)
  | 0, _, _ => none
  | n + 1, a1, m =>
    if a1 < 101 then
      if rn_in a1 101 = true then
        if rn_in a1 101 = true then
          (some (rm_i m 116 a1.toNatClampNeg (m.1 149 a1.toNatClampNeg))).bind fun (m4 : rn_Mem) =>
          (some (a1 + 1)).bind fun (x6 : Int32) =>
          mo_restore_l12 n x6 m4
        else none
      else none
    else
      some m
def mo_restore (n : Nat)  (m : rn_Mem) : Option (Int32 × rn_Mem) :=
  if (m.1 115 46) = 0 then
    some ((-4), m)
  else
    (mo_restore_l12 n 0 m).bind fun m7 =>
    some (1, m7)
set_option maxHeartbeats 4000000 in
set_option maxRecDepth 20000 in
theorem mo_restore_l12_ok (xs : List Int32) {d : Nat} {r : Option Value} {τ : rn_H} {out : rn_Mem} (hr : ∀ (mO : rn_Mem), out = mO → ∀ (o0 o1 : Option Value), rn_R xs d 216 36 [o0, o1] [] (rn_SH, mO) r τ) : ∀ (n : Nat) (a1 : Int32) (m : rn_Mem), mo_restore_l12 n a1 m = some out → rn_R xs d 216 12 [some (.ref 115), some (.int a1)] [] (rn_SH, m) r τ := by
  intro n
  induction n with
  | zero =>
    intro _ _ h
    cases h
  | succ n ih =>
    intro a1 m h
    unfold mo_restore_l12 at h
    try dsimp only at h
    refine rx_p (L2 := [some (.ref 115), some (.int a1)]) (S2 := [.int a1]) (pc2 := 13) op216_12 rfl rfl ?_
    refine rx_bp (v := 101) (pc2 := 15) op216_13 (by decide) rfl ?_
    refine ry_ic_ge (tgt := 36) (pc2 := 18) op216_15 (by decide) (by decide) rfl (fun b2 => ?_) (fun b2 => ?_)
    · have h := (if_pos b2).symm.trans h
      refine rx_p (L2 := [some (.ref 115), some (.int a1)]) (S2 := [.ref 115]) (pc2 := 19) op216_18 rfl rfl ?_
      refine rx_gf (v := .ref 116) (pc2 := 22) op216_19 sp_115 rfl rfl rfl ?_
      refine rx_p (L2 := [some (.ref 115), some (.int a1)]) (S2 := [.int a1, .ref 116]) (pc2 := 23) op216_22 rfl rfl ?_
      refine rx_p (L2 := [some (.ref 115), some (.int a1)]) (S2 := [.ref 115, .int a1, .ref 116]) (pc2 := 24) op216_23 rfl rfl ?_
      refine rx_gf (v := .ref 149) (pc2 := 27) op216_24 sp_115 rfl rfl rfl ?_
      refine rx_p (L2 := [some (.ref 115), some (.int a1)]) (S2 := [.int a1, .ref 149, .int a1, .ref 116]) (pc2 := 28) op216_27 rfl rfl ?_
      obtain ⟨k3, h⟩ := rq_chk h
      refine rx_ia (pc2 := 29) op216_28 (rn_shlt sp_149) sp_149 k3 rfl rfl ?_
      obtain ⟨k5, h⟩ := rq_chk h
      obtain ⟨m4, em4, h⟩ := rq_bv h
      refine rx_is (m2 := m4) (pc2 := 30) op216_29 sp_116 k5 rfl em4 rfl ?_
      obtain ⟨x6, ex6, h⟩ := rq_bv h
      refine rx_inc (w := 1) (v := x6) (L2 := [some (.ref 115), some (.int x6)]) (pc2 := 33) op216_30 rfl (by decide) ex6 rfl rfl ?_
      refine ry_go (tgt := 12) op216_33 (by decide) (by decide) ?_
      exact ih _ _ h
    · have h := (if_neg b2).symm.trans h
      cases h
      exact hr _ rfl _ _
set_option maxHeartbeats 4000000 in
set_option maxRecDepth 20000 in
theorem mo_restore_ok (xs : List Int32) {d : Nat} (hd : 0 ≤ d) {n : Nat} {m mO : rn_Mem} {rO : Int32} (h : mo_restore n  m = some (rO, mO)) : rn_R xs d 216 0 (rn_ent 2 [.ref 115]) [] (rn_SH, m) (some (.int rO)) (rn_SH, mO) := by
  unfold mo_restore at h
  show rn_R xs d 216 0 [some (.ref 115), none] [] (rn_SH, m) (some (.int rO)) (rn_SH, mO)
  refine rx_p (L2 := [some (.ref 115), none]) (S2 := [.ref 115]) (pc2 := 1) op216_0 rfl rfl ?_
  refine rx_gf (v := .int (m.1 115 46)) (pc2 := 4) op216_1 sp_115 rfl rfl rfl ?_
  refine ry_if_ne (tgt := 10) (pc2 := 7) op216_4 (by decide) (by decide) rfl (fun b1 => ?_) (fun b1 => ?_)
  · have h := (if_pos b1).symm.trans h
    refine rx_bp (v := (-4)) (pc2 := 9) op216_7 (by decide) rfl ?_
    obtain ⟨rfl, rfl⟩ := rq_ret h
    exact ry_ri op216_9 ms_216 rfl
  · have h := (if_neg b1).symm.trans h
    refine rx_ic (v := 0) (pc2 := 11) op216_10 (by decide) rfl ?_
    refine rx_s (L2 := [some (.ref 115), some (.int 0)]) (pc2 := 12) op216_11 rfl rfl rfl ?_
    obtain ⟨m7, f10, h⟩ := rq_bind h
    refine mo_restore_l12_ok xs (fun m0 eq => ?_) _ _ _  f10
    subst eq
    try dsimp only at h
    intro o8 o9
    refine rx_ic (v := 1) (pc2 := 37) op216_36 (by decide) rfl ?_
    obtain ⟨rfl, rfl⟩ := rq_ret h
    exact ry_ri op216_37 ms_216 rfl
/-! mo_sheet -/
theorem op217_0 : rn_op 217 0 = some (.iload_n 1, 1, 0, 0, 0) := by decide +kernel
theorem op217_1 : rn_op 217 1 = some (.iload_n 2, 1, 0, 0, 0) := by decide +kernel
theorem op217_2 : rn_op 217 2 = some (.invokestatic 292, 3, 198, 2, 0) := by decide +kernel
theorem op217_5 : rn_op 217 5 = some (.ifCond .eq 9, 3, 0, 0, 0) := by decide +kernel
theorem op217_8 : rn_op 217 8 = some (.iload_n 3, 1, 0, 0, 0) := by decide +kernel
theorem op217_9 : rn_op 217 9 = some (.bipush 24, 2, 0, 0, 0) := by decide +kernel
theorem op217_11 : rn_op 217 11 = some (.if_icmp .le 5, 3, 0, 0, 0) := by decide +kernel
theorem op217_14 : rn_op 217 14 = some (.iconst (-1), 1, 0, 0, 0) := by decide +kernel
theorem op217_15 : rn_op 217 15 = some (.ireturn, 1, 0, 0, 0) := by decide +kernel
theorem op217_16 : rn_op 217 16 = some (.iload_n 3, 1, 0, 0, 0) := by decide +kernel
theorem op217_17 : rn_op 217 17 = some (.ifCond .ge 6, 3, 0, 0, 0) := by decide +kernel
theorem op217_20 : rn_op 217 20 = some (.bipush (-14), 2, 0, 0, 0) := by decide +kernel
theorem op217_22 : rn_op 217 22 = some (.ireturn, 1, 0, 0, 0) := by decide +kernel
theorem op217_23 : rn_op 217 23 = some (.aload_n 0, 1, 0, 0, 0) := by decide +kernel
theorem op217_24 : rn_op 217 24 = some (.getfield 112, 3, 11, 48, 3) := by decide +kernel
theorem op217_27 : rn_op 217 27 = some (.iload_n 1, 1, 0, 0, 0) := by decide +kernel
theorem op217_28 : rn_op 217 28 = some (.iload_n 2, 1, 0, 0, 0) := by decide +kernel
theorem op217_29 : rn_op 217 29 = some (.iastore, 1, 0, 0, 0) := by decide +kernel
theorem op217_30 : rn_op 217 30 = some (.aload_n 0, 1, 0, 0, 0) := by decide +kernel
theorem op217_31 : rn_op 217 31 = some (.getfield 115, 3, 11, 49, 3) := by decide +kernel
theorem op217_34 : rn_op 217 34 = some (.iload_n 1, 1, 0, 0, 0) := by decide +kernel
theorem op217_35 : rn_op 217 35 = some (.iload_n 3, 1, 0, 0, 0) := by decide +kernel
theorem op217_36 : rn_op 217 36 = some (.iastore, 1, 0, 0, 0) := by decide +kernel
theorem op217_37 : rn_op 217 37 = some (.iconst 0, 1, 0, 0, 0) := by decide +kernel
theorem op217_38 : rn_op 217 38 = some (.istore 4, 2, 0, 0, 0) := by decide +kernel
theorem op217_40 : rn_op 217 40 = some (.iload 4, 2, 0, 0, 0) := by decide +kernel
theorem op217_42 : rn_op 217 42 = some (.bipush 24, 2, 0, 0, 0) := by decide +kernel
theorem op217_44 : rn_op 217 44 = some (.if_icmp .ge 22, 3, 0, 0, 0) := by decide +kernel
theorem op217_47 : rn_op 217 47 = some (.aload_n 0, 1, 0, 0, 0) := by decide +kernel
theorem op217_48 : rn_op 217 48 = some (.getfield 118, 3, 11, 50, 3) := by decide +kernel
theorem op217_51 : rn_op 217 51 = some (.bipush 24, 2, 0, 0, 0) := by decide +kernel
theorem op217_53 : rn_op 217 53 = some (.iload_n 1, 1, 0, 0, 0) := by decide +kernel
theorem op217_54 : rn_op 217 54 = some (.imul, 1, 0, 0, 0) := by decide +kernel
theorem op217_55 : rn_op 217 55 = some (.iload 4, 2, 0, 0, 0) := by decide +kernel
theorem op217_57 : rn_op 217 57 = some (.iadd, 1, 0, 0, 0) := by decide +kernel
theorem op217_58 : rn_op 217 58 = some (.iconst 0, 1, 0, 0, 0) := by decide +kernel
theorem op217_59 : rn_op 217 59 = some (.iastore, 1, 0, 0, 0) := by decide +kernel
theorem op217_60 : rn_op 217 60 = some (.iinc 4 1, 3, 0, 0, 0) := by decide +kernel
theorem op217_63 : rn_op 217 63 = some (.goto (-23), 3, 0, 0, 0) := by decide +kernel
theorem op217_66 : rn_op 217 66 = some (.iload_n 3, 1, 0, 0, 0) := by decide +kernel
theorem op217_67 : rn_op 217 67 = some (.ireturn, 1, 0, 0, 0) := by decide +kernel
def mo_sheet_l40 (a1 : Int32) (a3 : Int32) : Nat → Int32 → rn_Mem → Option (rn_Mem)
  | 0, _, _ => none
  | n + 1, a4, m =>
    if a4 < 24 then
      if rn_in (((24 : Int32) * a1) + a4) 96 = true then
        (some (rm_i m 152 (((24 : Int32) * a1) + a4).toNatClampNeg 0)).bind fun (m12 : rn_Mem) =>
        (some (a4 + 1)).bind fun (x14 : Int32) =>
        mo_sheet_l40 a1 a3 n x14 m12
      else none
    else
      some m
def mo_sheet (n : Nat) (a1 : Int32) (a2 : Int32) (a3 : Int32) (m : rn_Mem) : Option (Int32 × rn_Mem) :=
  (mo_isSheet n a1 a2 m).bind fun (r2, m1) =>
  if r2 = 0 then
    some ((-1), m1)
  else
    if 24 < a3 then
      some ((-1), m1)
    else
      if a3 < 0 then
        some ((-14), m1)
      else
        if rn_in a1 4 = true then
          (some (rm_i m1 150 a1.toNatClampNeg a2)).bind fun (m7 : rn_Mem) =>
          if rn_in a1 4 = true then
            (some (rm_i m7 151 a1.toNatClampNeg a3)).bind fun (m9 : rn_Mem) =>
            (mo_sheet_l40 a1 a3 n 0 m9).bind fun m15 =>
            some (a3, m15)
          else none
        else none
set_option maxHeartbeats 4000000 in
set_option maxRecDepth 20000 in
theorem mo_sheet_l40_ok (xs : List Int32) {d : Nat} (hd : 2 ≤ d + 1) {a1 : Int32} {a3 : Int32} {r : Option Value} {τ : rn_H} {out : rn_Mem} (hr : ∀ (mO : rn_Mem), out = mO → ∀ (o0 o1 o2 o4 : Option Value), rn_R xs (d + 1) 217 66 [o0, o1, o2, some (.int a3), o4] [] (rn_SH, mO) r τ) : ∀ (n : Nat) (a4 : Int32) (o2 : Option Value) (m : rn_Mem), mo_sheet_l40 a1 a3 n a4 m = some out → rn_R xs (d + 1) 217 40 [some (.ref 115), some (.int a1), o2, some (.int a3), some (.int a4)] [] (rn_SH, m) r τ := by
  intro n
  induction n with
  | zero =>
    intro _ _ _ h
    cases h
  | succ n ih =>
    intro a4 o2 m h
    unfold mo_sheet_l40 at h
    try dsimp only at h
    refine rx_p (L2 := [some (.ref 115), some (.int a1), o2, some (.int a3), some (.int a4)]) (S2 := [.int a4]) (pc2 := 42) op217_40 rfl rfl ?_
    refine rx_bp (v := 24) (pc2 := 44) op217_42 (by decide) rfl ?_
    refine ry_ic_ge (tgt := 66) (pc2 := 47) op217_44 (by decide) (by decide) rfl (fun b11 => ?_) (fun b11 => ?_)
    · have h := (if_pos b11).symm.trans h
      refine rx_p (L2 := [some (.ref 115), some (.int a1), o2, some (.int a3), some (.int a4)]) (S2 := [.ref 115]) (pc2 := 48) op217_47 rfl rfl ?_
      refine rx_gf (v := .ref 152) (pc2 := 51) op217_48 sp_115 rfl rfl rfl ?_
      refine rx_bp (v := 24) (pc2 := 53) op217_51 (by decide) rfl ?_
      refine rx_p (L2 := [some (.ref 115), some (.int a1), o2, some (.int a3), some (.int a4)]) (S2 := [.int a1, .int 24, .ref 152]) (pc2 := 54) op217_53 rfl rfl ?_
      refine rx_p (L2 := [some (.ref 115), some (.int a1), o2, some (.int a3), some (.int a4)]) (S2 := [.int ((24 : Int32) * a1), .ref 152]) (pc2 := 55) op217_54 rfl rfl ?_
      refine rx_p (L2 := [some (.ref 115), some (.int a1), o2, some (.int a3), some (.int a4)]) (S2 := [.int a4, .int ((24 : Int32) * a1), .ref 152]) (pc2 := 57) op217_55 rfl rfl ?_
      refine rx_p (L2 := [some (.ref 115), some (.int a1), o2, some (.int a3), some (.int a4)]) (S2 := [.int (((24 : Int32) * a1) + a4), .ref 152]) (pc2 := 58) op217_57 rfl rfl ?_
      refine rx_ic (v := 0) (pc2 := 59) op217_58 (by decide) rfl ?_
      obtain ⟨k13, h⟩ := rq_chk h
      obtain ⟨m12, em12, h⟩ := rq_bv h
      refine rx_is (m2 := m12) (pc2 := 60) op217_59 sp_152 k13 rfl em12 rfl ?_
      obtain ⟨x14, ex14, h⟩ := rq_bv h
      refine rx_inc (w := 1) (v := x14) (L2 := [some (.ref 115), some (.int a1), o2, some (.int a3), some (.int x14)]) (pc2 := 63) op217_60 rfl (by decide) ex14 rfl rfl ?_
      refine ry_go (tgt := 40) op217_63 (by decide) (by decide) ?_
      exact ih _ _ _ h
    · have h := (if_neg b11).symm.trans h
      cases h
      exact hr _ rfl _ _ _ _
set_option maxHeartbeats 4000000 in
set_option maxRecDepth 20000 in
theorem mo_sheet_ok (xs : List Int32) {d : Nat} (hd : 2 ≤ d) {n : Nat} {a1 : Int32} {a2 : Int32} {a3 : Int32} {m mO : rn_Mem} {rO : Int32} (h : mo_sheet n a1 a2 a3 m = some (rO, mO)) : rn_R xs d 217 0 (rn_ent 5 [.ref 115, .int a1, .int a2, .int a3]) [] (rn_SH, m) (some (.int rO)) (rn_SH, mO) := by
  obtain ⟨d, rfl⟩ : ∃ e, d = e + 1 := ⟨d - 1, by omega⟩
  unfold mo_sheet at h
  show rn_R xs (d + 1) 217 0 [some (.ref 115), some (.int a1), some (.int a2), some (.int a3), none] [] (rn_SH, m) (some (.int rO)) (rn_SH, mO)
  refine rx_p (L2 := [some (.ref 115), some (.int a1), some (.int a2), some (.int a3), none]) (S2 := [.int a1]) (pc2 := 1) op217_0 rfl rfl ?_
  refine rx_p (L2 := [some (.ref 115), some (.int a1), some (.int a2), some (.int a3), none]) (S2 := [.int a2, .int a1]) (pc2 := 2) op217_1 rfl rfl ?_
  obtain ⟨⟨r2, m1⟩, f3, h⟩ := rq_bind h
  try dsimp only at h
  refine ry_is (vs := [.int a1, .int a2]) (T := []) (pc2 := 5) op217_2 (by decide) ms_198 (by decide) rfl rfl (Nat.le_of_ble_eq_true rfl) (Nat.le_of_ble_eq_true rfl) (mo_isSheet_ok xs (by omega)  f3) rfl ?_
  show rn_R _ _ _ _ _ [.int r2] _ _ _
  refine ry_if_eq (tgt := 14) (pc2 := 8) op217_5 (by decide) (by decide) rfl (fun b4 => ?_) (fun b4 => ?_)
  · have h := (if_pos b4).symm.trans h
    refine rx_ic (v := (-1)) (pc2 := 15) op217_14 (by decide) rfl ?_
    obtain ⟨rfl, rfl⟩ := rq_ret h
    exact ry_ri op217_15 ms_217 rfl
  · have h := (if_neg b4).symm.trans h
    refine rx_p (L2 := [some (.ref 115), some (.int a1), some (.int a2), some (.int a3), none]) (S2 := [.int a3]) (pc2 := 9) op217_8 rfl rfl ?_
    refine rx_bp (v := 24) (pc2 := 11) op217_9 (by decide) rfl ?_
    refine ry_ic_le (tgt := 16) (pc2 := 14) op217_11 (by decide) (by decide) rfl (fun b5 => ?_) (fun b5 => ?_)
    · have h := (if_pos b5).symm.trans h
      refine rx_ic (v := (-1)) (pc2 := 15) op217_14 (by decide) rfl ?_
      obtain ⟨rfl, rfl⟩ := rq_ret h
      exact ry_ri op217_15 ms_217 rfl
    · have h := (if_neg b5).symm.trans h
      refine rx_p (L2 := [some (.ref 115), some (.int a1), some (.int a2), some (.int a3), none]) (S2 := [.int a3]) (pc2 := 17) op217_16 rfl rfl ?_
      refine ry_if_ge (tgt := 23) (pc2 := 20) op217_17 (by decide) (by decide) rfl (fun b6 => ?_) (fun b6 => ?_)
      · have h := (if_pos b6).symm.trans h
        refine rx_bp (v := (-14)) (pc2 := 22) op217_20 (by decide) rfl ?_
        obtain ⟨rfl, rfl⟩ := rq_ret h
        exact ry_ri op217_22 ms_217 rfl
      · have h := (if_neg b6).symm.trans h
        refine rx_p (L2 := [some (.ref 115), some (.int a1), some (.int a2), some (.int a3), none]) (S2 := [.ref 115]) (pc2 := 24) op217_23 rfl rfl ?_
        refine rx_gf (v := .ref 150) (pc2 := 27) op217_24 sp_115 rfl rfl rfl ?_
        refine rx_p (L2 := [some (.ref 115), some (.int a1), some (.int a2), some (.int a3), none]) (S2 := [.int a1, .ref 150]) (pc2 := 28) op217_27 rfl rfl ?_
        refine rx_p (L2 := [some (.ref 115), some (.int a1), some (.int a2), some (.int a3), none]) (S2 := [.int a2, .int a1, .ref 150]) (pc2 := 29) op217_28 rfl rfl ?_
        obtain ⟨k8, h⟩ := rq_chk h
        obtain ⟨m7, em7, h⟩ := rq_bv h
        refine rx_is (m2 := m7) (pc2 := 30) op217_29 sp_150 k8 rfl em7 rfl ?_
        refine rx_p (L2 := [some (.ref 115), some (.int a1), some (.int a2), some (.int a3), none]) (S2 := [.ref 115]) (pc2 := 31) op217_30 rfl rfl ?_
        refine rx_gf (v := .ref 151) (pc2 := 34) op217_31 sp_115 rfl rfl rfl ?_
        refine rx_p (L2 := [some (.ref 115), some (.int a1), some (.int a2), some (.int a3), none]) (S2 := [.int a1, .ref 151]) (pc2 := 35) op217_34 rfl rfl ?_
        refine rx_p (L2 := [some (.ref 115), some (.int a1), some (.int a2), some (.int a3), none]) (S2 := [.int a3, .int a1, .ref 151]) (pc2 := 36) op217_35 rfl rfl ?_
        obtain ⟨k10, h⟩ := rq_chk h
        obtain ⟨m9, em9, h⟩ := rq_bv h
        refine rx_is (m2 := m9) (pc2 := 37) op217_36 sp_151 k10 rfl em9 rfl ?_
        refine rx_ic (v := 0) (pc2 := 38) op217_37 (by decide) rfl ?_
        refine rx_s (L2 := [some (.ref 115), some (.int a1), some (.int a2), some (.int a3), some (.int 0)]) (pc2 := 40) op217_38 rfl rfl rfl ?_
        obtain ⟨m15, f20, h⟩ := rq_bind h
        refine mo_sheet_l40_ok xs hd (fun m0 eq => ?_) _ _ _ _  f20
        subst eq
        try dsimp only at h
        intro o16 o17 o18 o19
        refine rx_p (L2 := [o16, o17, o18, some (.int a3), o19]) (S2 := [.int a3]) (pc2 := 67) op217_66 rfl rfl ?_
        obtain ⟨rfl, rfl⟩ := rq_ret h
        exact ry_ri op217_67 ms_217 rfl
/-! mo_drop -/
theorem op218_0 : rn_op 218 0 = some (.iload_n 1, 1, 0, 0, 0) := by decide +kernel
theorem op218_1 : rn_op 218 1 = some (.i2l, 1, 0, 0, 0) := by decide +kernel
theorem op218_2 : rn_op 218 2 = some (.lconst 0, 1, 0, 0, 0) := by decide +kernel
theorem op218_3 : rn_op 218 3 = some (.ldc2_w 153, 3, 3, 0, 0) := by decide +kernel
theorem op218_6 : rn_op 218 6 = some (.invokestatic 121, 3, 147, 3, 0) := by decide +kernel
theorem op218_9 : rn_op 218 9 = some (.ifCond .ne 5, 3, 0, 0, 0) := by decide +kernel
theorem op218_12 : rn_op 218 12 = some (.iconst (-1), 1, 0, 0, 0) := by decide +kernel
theorem op218_13 : rn_op 218 13 = some (.ireturn, 1, 0, 0, 0) := by decide +kernel
theorem op218_14 : rn_op 218 14 = some (.aload_n 0, 1, 0, 0, 0) := by decide +kernel
theorem op218_15 : rn_op 218 15 = some (.getfield 112, 3, 11, 48, 3) := by decide +kernel
theorem op218_18 : rn_op 218 18 = some (.iload_n 1, 1, 0, 0, 0) := by decide +kernel
theorem op218_19 : rn_op 218 19 = some (.iaload, 1, 0, 0, 0) := by decide +kernel
theorem op218_20 : rn_op 218 20 = some (.ifCond .ge 6, 3, 0, 0, 0) := by decide +kernel
theorem op218_23 : rn_op 218 23 = some (.bipush (-11), 2, 0, 0, 0) := by decide +kernel
theorem op218_25 : rn_op 218 25 = some (.ireturn, 1, 0, 0, 0) := by decide +kernel
theorem op218_26 : rn_op 218 26 = some (.aload_n 0, 1, 0, 0, 0) := by decide +kernel
theorem op218_27 : rn_op 218 27 = some (.getfield 112, 3, 11, 48, 3) := by decide +kernel
theorem op218_30 : rn_op 218 30 = some (.iload_n 1, 1, 0, 0, 0) := by decide +kernel
theorem op218_31 : rn_op 218 31 = some (.iconst (-1), 1, 0, 0, 0) := by decide +kernel
theorem op218_32 : rn_op 218 32 = some (.iastore, 1, 0, 0, 0) := by decide +kernel
theorem op218_33 : rn_op 218 33 = some (.aload_n 0, 1, 0, 0, 0) := by decide +kernel
theorem op218_34 : rn_op 218 34 = some (.getfield 115, 3, 11, 49, 3) := by decide +kernel
theorem op218_37 : rn_op 218 37 = some (.iload_n 1, 1, 0, 0, 0) := by decide +kernel
theorem op218_38 : rn_op 218 38 = some (.iaload, 1, 0, 0, 0) := by decide +kernel
theorem op218_39 : rn_op 218 39 = some (.ireturn, 1, 0, 0, 0) := by decide +kernel
def mo_drop (n : Nat) (a1 : Int32) (m : rn_Mem) : Option (Int32 × rn_Mem) :=
  (mo_in n (a1.toInt64) 0 3 m).bind fun (r2, m1) =>
  if r2 = 0 then
    some ((-1), m1)
  else
    if rn_in a1 4 = true then
      if (m1.1 150 a1.toNatClampNeg) < 0 then
        some ((-11), m1)
      else
        if rn_in a1 4 = true then
          (some (rm_i m1 150 a1.toNatClampNeg (-1))).bind fun (m7 : rn_Mem) =>
          if rn_in a1 4 = true then
            some (m7.1 151 a1.toNatClampNeg, m7)
          else none
        else none
    else none
set_option maxHeartbeats 4000000 in
set_option maxRecDepth 20000 in
theorem mo_drop_ok (xs : List Int32) {d : Nat} (hd : 1 ≤ d) {n : Nat} {a1 : Int32} {m mO : rn_Mem} {rO : Int32} (h : mo_drop n a1 m = some (rO, mO)) : rn_R xs d 218 0 (rn_ent 2 [.ref 115, .int a1]) [] (rn_SH, m) (some (.int rO)) (rn_SH, mO) := by
  obtain ⟨d, rfl⟩ : ∃ e, d = e + 1 := ⟨d - 1, by omega⟩
  unfold mo_drop at h
  show rn_R xs (d + 1) 218 0 [some (.ref 115), some (.int a1)] [] (rn_SH, m) (some (.int rO)) (rn_SH, mO)
  refine rx_p (L2 := [some (.ref 115), some (.int a1)]) (S2 := [.int a1]) (pc2 := 1) op218_0 rfl rfl ?_
  refine rx_p (L2 := [some (.ref 115), some (.int a1)]) (S2 := [.long (a1.toInt64)]) (pc2 := 2) op218_1 rfl rfl ?_
  refine rx_lc (v := 0) (pc2 := 3) op218_2 (by decide) rfl ?_
  refine rx_ld2 (v := 3) (pc2 := 6) op218_3 (by decide) rfl ?_
  obtain ⟨⟨r2, m1⟩, f3, h⟩ := rq_bind h
  try dsimp only at h
  refine ry_is (vs := [.long (a1.toInt64), .long 0, .long 3]) (T := []) (pc2 := 9) op218_6 (by decide) ms_147 (by decide) rfl rfl (Nat.le_of_ble_eq_true rfl) (Nat.le_of_ble_eq_true rfl) (mo_in_ok xs (by omega)  f3) rfl ?_
  show rn_R _ _ _ _ _ [.int r2] _ _ _
  refine ry_if_ne (tgt := 14) (pc2 := 12) op218_9 (by decide) (by decide) rfl (fun b4 => ?_) (fun b4 => ?_)
  · have h := (if_pos b4).symm.trans h
    refine rx_ic (v := (-1)) (pc2 := 13) op218_12 (by decide) rfl ?_
    obtain ⟨rfl, rfl⟩ := rq_ret h
    exact ry_ri op218_13 ms_218 rfl
  · have h := (if_neg b4).symm.trans h
    refine rx_p (L2 := [some (.ref 115), some (.int a1)]) (S2 := [.ref 115]) (pc2 := 15) op218_14 rfl rfl ?_
    refine rx_gf (v := .ref 150) (pc2 := 18) op218_15 sp_115 rfl rfl rfl ?_
    refine rx_p (L2 := [some (.ref 115), some (.int a1)]) (S2 := [.int a1, .ref 150]) (pc2 := 19) op218_18 rfl rfl ?_
    obtain ⟨k5, h⟩ := rq_chk h
    refine rx_ia (pc2 := 20) op218_19 (rn_shlt sp_150) sp_150 k5 rfl rfl ?_
    refine ry_if_ge (tgt := 26) (pc2 := 23) op218_20 (by decide) (by decide) rfl (fun b6 => ?_) (fun b6 => ?_)
    · have h := (if_pos b6).symm.trans h
      refine rx_bp (v := (-11)) (pc2 := 25) op218_23 (by decide) rfl ?_
      obtain ⟨rfl, rfl⟩ := rq_ret h
      exact ry_ri op218_25 ms_218 rfl
    · have h := (if_neg b6).symm.trans h
      refine rx_p (L2 := [some (.ref 115), some (.int a1)]) (S2 := [.ref 115]) (pc2 := 27) op218_26 rfl rfl ?_
      refine rx_gf (v := .ref 150) (pc2 := 30) op218_27 sp_115 rfl rfl rfl ?_
      refine rx_p (L2 := [some (.ref 115), some (.int a1)]) (S2 := [.int a1, .ref 150]) (pc2 := 31) op218_30 rfl rfl ?_
      refine rx_ic (v := (-1)) (pc2 := 32) op218_31 (by decide) rfl ?_
      obtain ⟨k8, h⟩ := rq_chk h
      obtain ⟨m7, em7, h⟩ := rq_bv h
      refine rx_is (m2 := m7) (pc2 := 33) op218_32 sp_150 k8 rfl em7 rfl ?_
      refine rx_p (L2 := [some (.ref 115), some (.int a1)]) (S2 := [.ref 115]) (pc2 := 34) op218_33 rfl rfl ?_
      refine rx_gf (v := .ref 151) (pc2 := 37) op218_34 sp_115 rfl rfl rfl ?_
      refine rx_p (L2 := [some (.ref 115), some (.int a1)]) (S2 := [.int a1, .ref 151]) (pc2 := 38) op218_37 rfl rfl ?_
      obtain ⟨k9, h⟩ := rq_chk h
      refine rx_ia (pc2 := 39) op218_38 (rn_shlt sp_151) sp_151 k9 rfl rfl ?_
      obtain ⟨rfl, rfl⟩ := rq_ret h
      exact ry_ri op218_39 ms_218 rfl
/-! mo_item -/
theorem op219_0 : rn_op 219 0 = some (.iload_n 1, 1, 0, 0, 0) := by decide +kernel
theorem op219_1 : rn_op 219 1 = some (.iload_n 2, 1, 0, 0, 0) := by decide +kernel
theorem op219_2 : rn_op 219 2 = some (.invokestatic 292, 3, 198, 2, 0) := by decide +kernel
theorem op219_5 : rn_op 219 5 = some (.ifCond .ne 5, 3, 0, 0, 0) := by decide +kernel
theorem op219_8 : rn_op 219 8 = some (.iconst (-1), 1, 0, 0, 0) := by decide +kernel
theorem op219_9 : rn_op 219 9 = some (.ireturn, 1, 0, 0, 0) := by decide +kernel
theorem op219_10 : rn_op 219 10 = some (.aload_n 0, 1, 0, 0, 0) := by decide +kernel
theorem op219_11 : rn_op 219 11 = some (.iload_n 1, 1, 0, 0, 0) := by decide +kernel
theorem op219_12 : rn_op 219 12 = some (.iload_n 2, 1, 0, 0, 0) := by decide +kernel
theorem op219_13 : rn_op 219 13 = some (.iload_n 3, 1, 0, 0, 0) := by decide +kernel
theorem op219_14 : rn_op 219 14 = some (.iconst 1, 1, 0, 0, 0) := by decide +kernel
theorem op219_15 : rn_op 219 15 = some (.invokevirtual 296, 3, 199, 5, 11) := by decide +kernel
theorem op219_18 : rn_op 219 18 = some (.istore 5, 2, 0, 0, 0) := by decide +kernel
theorem op219_20 : rn_op 219 20 = some (.iload 5, 2, 0, 0, 0) := by decide +kernel
theorem op219_22 : rn_op 219 22 = some (.ifCond .ge 6, 3, 0, 0, 0) := by decide +kernel
theorem op219_25 : rn_op 219 25 = some (.iload 5, 2, 0, 0, 0) := by decide +kernel
theorem op219_27 : rn_op 219 27 = some (.ireturn, 1, 0, 0, 0) := by decide +kernel
theorem op219_28 : rn_op 219 28 = some (.aload_n 0, 1, 0, 0, 0) := by decide +kernel
theorem op219_29 : rn_op 219 29 = some (.getfield 118, 3, 11, 50, 3) := by decide +kernel
theorem op219_32 : rn_op 219 32 = some (.bipush 24, 2, 0, 0, 0) := by decide +kernel
theorem op219_34 : rn_op 219 34 = some (.iload_n 1, 1, 0, 0, 0) := by decide +kernel
theorem op219_35 : rn_op 219 35 = some (.imul, 1, 0, 0, 0) := by decide +kernel
theorem op219_36 : rn_op 219 36 = some (.iload_n 3, 1, 0, 0, 0) := by decide +kernel
theorem op219_37 : rn_op 219 37 = some (.iadd, 1, 0, 0, 0) := by decide +kernel
theorem op219_38 : rn_op 219 38 = some (.iload_n 2, 1, 0, 0, 0) := by decide +kernel
theorem op219_39 : rn_op 219 39 = some (.ifCond .ne 14, 3, 0, 0, 0) := by decide +kernel
theorem op219_42 : rn_op 219 42 = some (.iload 4, 2, 0, 0, 0) := by decide +kernel
theorem op219_44 : rn_op 219 44 = some (.bipush 24, 2, 0, 0, 0) := by decide +kernel
theorem op219_46 : rn_op 219 46 = some (.ishl, 1, 0, 0, 0) := by decide +kernel
theorem op219_47 : rn_op 219 47 = some (.bipush 24, 2, 0, 0, 0) := by decide +kernel
theorem op219_49 : rn_op 219 49 = some (.ishr, 1, 0, 0, 0) := by decide +kernel
theorem op219_50 : rn_op 219 50 = some (.goto 21, 3, 0, 0, 0) := by decide +kernel
theorem op219_53 : rn_op 219 53 = some (.iload_n 2, 1, 0, 0, 0) := by decide +kernel
theorem op219_54 : rn_op 219 54 = some (.iconst 1, 1, 0, 0, 0) := by decide +kernel
theorem op219_55 : rn_op 219 55 = some (.if_icmp .ne 14, 3, 0, 0, 0) := by decide +kernel
theorem op219_58 : rn_op 219 58 = some (.iload 4, 2, 0, 0, 0) := by decide +kernel
theorem op219_60 : rn_op 219 60 = some (.bipush 16, 2, 0, 0, 0) := by decide +kernel
theorem op219_62 : rn_op 219 62 = some (.ishl, 1, 0, 0, 0) := by decide +kernel
theorem op219_63 : rn_op 219 63 = some (.bipush 16, 2, 0, 0, 0) := by decide +kernel
theorem op219_65 : rn_op 219 65 = some (.ishr, 1, 0, 0, 0) := by decide +kernel
theorem op219_66 : rn_op 219 66 = some (.goto 5, 3, 0, 0, 0) := by decide +kernel
theorem op219_69 : rn_op 219 69 = some (.iload 4, 2, 0, 0, 0) := by decide +kernel
theorem op219_71 : rn_op 219 71 = some (.iastore, 1, 0, 0, 0) := by decide +kernel
theorem op219_72 : rn_op 219 72 = some (.iconst 1, 1, 0, 0, 0) := by decide +kernel
theorem op219_73 : rn_op 219 73 = some (.ireturn, 1, 0, 0, 0) := by decide +kernel
def mo_item (n : Nat) (a1 : Int32) (a2 : Int32) (a3 : Int32) (a4 : Int32) (m : rn_Mem) : Option (Int32 × rn_Mem) :=
  (mo_isSheet n a1 a2 m).bind fun (r2, m1) =>
  if r2 = 0 then
    some ((-1), m1)
  else
    (mo_lacksRow n a1 a2 a3 1 m1).bind fun (r6, m5) =>
    if r6 < 0 then
      some (r6, m5)
    else
      (show Option (Int32) from
        if a2 = 0 then
          some ((a4 <<< (24 &&& 31)) >>> (24 &&& 31))
        else
          if a2 = 1 then
            some ((a4 <<< (16 &&& 31)) >>> (16 &&& 31))
          else
            some (a4)).bind fun x17 =>
      if rn_in (((24 : Int32) * a1) + a3) 96 = true then
        (some (rm_i m5 152 (((24 : Int32) * a1) + a3).toNatClampNeg x17)).bind fun (m18 : rn_Mem) =>
        some (1, m18)
      else none
set_option maxHeartbeats 4000000 in
set_option maxRecDepth 20000 in
theorem mo_item_ok (xs : List Int32) {d : Nat} (hd : 2 ≤ d) {n : Nat} {a1 : Int32} {a2 : Int32} {a3 : Int32} {a4 : Int32} {m mO : rn_Mem} {rO : Int32} (h : mo_item n a1 a2 a3 a4 m = some (rO, mO)) : rn_R xs d 219 0 (rn_ent 6 [.ref 115, .int a1, .int a2, .int a3, .int a4]) [] (rn_SH, m) (some (.int rO)) (rn_SH, mO) := by
  obtain ⟨d, rfl⟩ : ∃ e, d = e + 1 := ⟨d - 1, by omega⟩
  unfold mo_item at h
  show rn_R xs (d + 1) 219 0 [some (.ref 115), some (.int a1), some (.int a2), some (.int a3), some (.int a4), none] [] (rn_SH, m) (some (.int rO)) (rn_SH, mO)
  refine rx_p (L2 := [some (.ref 115), some (.int a1), some (.int a2), some (.int a3), some (.int a4), none]) (S2 := [.int a1]) (pc2 := 1) op219_0 rfl rfl ?_
  refine rx_p (L2 := [some (.ref 115), some (.int a1), some (.int a2), some (.int a3), some (.int a4), none]) (S2 := [.int a2, .int a1]) (pc2 := 2) op219_1 rfl rfl ?_
  obtain ⟨⟨r2, m1⟩, f3, h⟩ := rq_bind h
  try dsimp only at h
  refine ry_is (vs := [.int a1, .int a2]) (T := []) (pc2 := 5) op219_2 (by decide) ms_198 (by decide) rfl rfl (Nat.le_of_ble_eq_true rfl) (Nat.le_of_ble_eq_true rfl) (mo_isSheet_ok xs (by omega)  f3) rfl ?_
  show rn_R _ _ _ _ _ [.int r2] _ _ _
  refine ry_if_ne (tgt := 10) (pc2 := 8) op219_5 (by decide) (by decide) rfl (fun b4 => ?_) (fun b4 => ?_)
  · have h := (if_pos b4).symm.trans h
    refine rx_ic (v := (-1)) (pc2 := 9) op219_8 (by decide) rfl ?_
    obtain ⟨rfl, rfl⟩ := rq_ret h
    exact ry_ri op219_9 ms_219 rfl
  · have h := (if_neg b4).symm.trans h
    refine rx_p (L2 := [some (.ref 115), some (.int a1), some (.int a2), some (.int a3), some (.int a4), none]) (S2 := [.ref 115]) (pc2 := 11) op219_10 rfl rfl ?_
    refine rx_p (L2 := [some (.ref 115), some (.int a1), some (.int a2), some (.int a3), some (.int a4), none]) (S2 := [.int a1, .ref 115]) (pc2 := 12) op219_11 rfl rfl ?_
    refine rx_p (L2 := [some (.ref 115), some (.int a1), some (.int a2), some (.int a3), some (.int a4), none]) (S2 := [.int a2, .int a1, .ref 115]) (pc2 := 13) op219_12 rfl rfl ?_
    refine rx_p (L2 := [some (.ref 115), some (.int a1), some (.int a2), some (.int a3), some (.int a4), none]) (S2 := [.int a3, .int a2, .int a1, .ref 115]) (pc2 := 14) op219_13 rfl rfl ?_
    refine rx_ic (v := 1) (pc2 := 15) op219_14 (by decide) rfl ?_
    obtain ⟨⟨r6, m5⟩, f7, h⟩ := rq_bind h
    try dsimp only at h
    refine ry_iv (p := 115) (vs := [.int a1, .int a2, .int a3, .int 1]) (T := []) (pc2 := 18) op219_15 ms_199 (by decide) rfl rfl (Nat.le_of_ble_eq_true rfl) (Nat.le_of_ble_eq_true rfl) sp_115 (mo_lacksRow_ok xs (by omega)  f7) rfl ?_
    show rn_R _ _ _ _ _ [.int r6] _ _ _
    refine rx_s (L2 := [some (.ref 115), some (.int a1), some (.int a2), some (.int a3), some (.int a4), some (.int r6)]) (pc2 := 20) op219_18 rfl rfl rfl ?_
    refine rx_p (L2 := [some (.ref 115), some (.int a1), some (.int a2), some (.int a3), some (.int a4), some (.int r6)]) (S2 := [.int r6]) (pc2 := 22) op219_20 rfl rfl ?_
    refine ry_if_ge (tgt := 28) (pc2 := 25) op219_22 (by decide) (by decide) rfl (fun b8 => ?_) (fun b8 => ?_)
    · have h := (if_pos b8).symm.trans h
      refine rx_p (L2 := [some (.ref 115), some (.int a1), some (.int a2), some (.int a3), some (.int a4), some (.int r6)]) (S2 := [.int r6]) (pc2 := 27) op219_25 rfl rfl ?_
      obtain ⟨rfl, rfl⟩ := rq_ret h
      exact ry_ri op219_27 ms_219 rfl
    · have h := (if_neg b8).symm.trans h
      refine rx_p (L2 := [some (.ref 115), some (.int a1), some (.int a2), some (.int a3), some (.int a4), some (.int r6)]) (S2 := [.ref 115]) (pc2 := 29) op219_28 rfl rfl ?_
      refine rx_gf (v := .ref 152) (pc2 := 32) op219_29 sp_115 rfl rfl rfl ?_
      refine rx_bp (v := 24) (pc2 := 34) op219_32 (by decide) rfl ?_
      refine rx_p (L2 := [some (.ref 115), some (.int a1), some (.int a2), some (.int a3), some (.int a4), some (.int r6)]) (S2 := [.int a1, .int 24, .ref 152]) (pc2 := 35) op219_34 rfl rfl ?_
      refine rx_p (L2 := [some (.ref 115), some (.int a1), some (.int a2), some (.int a3), some (.int a4), some (.int r6)]) (S2 := [.int ((24 : Int32) * a1), .ref 152]) (pc2 := 36) op219_35 rfl rfl ?_
      refine rx_p (L2 := [some (.ref 115), some (.int a1), some (.int a2), some (.int a3), some (.int a4), some (.int r6)]) (S2 := [.int a3, .int ((24 : Int32) * a1), .ref 152]) (pc2 := 37) op219_36 rfl rfl ?_
      refine rx_p (L2 := [some (.ref 115), some (.int a1), some (.int a2), some (.int a3), some (.int a4), some (.int r6)]) (S2 := [.int (((24 : Int32) * a1) + a3), .ref 152]) (pc2 := 38) op219_37 rfl rfl ?_
      refine rx_p (L2 := [some (.ref 115), some (.int a1), some (.int a2), some (.int a3), some (.int a4), some (.int r6)]) (S2 := [.int a2, .int (((24 : Int32) * a1) + a3), .ref 152]) (pc2 := 39) op219_38 rfl rfl ?_
      obtain ⟨x17, gc20, h⟩ := rq_bind h
      try dsimp only at h
      have c20 : ∀ (o11 o12 o13 o14 o15 o16 : Option Value), rn_R xs (d + 1) 219 71 [o11, o12, o13, o14, o15, o16] [.int x17, .int (((24 : Int32) * a1) + a3), .ref 152] (rn_SH, m5) (some (.int rO)) (rn_SH, mO) := by
        intro o11 o12 o13 o14 o15 o16
        obtain ⟨k19, h⟩ := rq_chk h
        obtain ⟨m18, em18, h⟩ := rq_bv h
        refine rx_is (m2 := m18) (pc2 := 72) op219_71 sp_152 k19 rfl em18 rfl ?_
        refine rx_ic (v := 1) (pc2 := 73) op219_72 (by decide) rfl ?_
        obtain ⟨rfl, rfl⟩ := rq_ret h
        exact ry_ri op219_73 ms_219 rfl
      refine ry_if_ne (tgt := 53) (pc2 := 42) op219_39 (by decide) (by decide) rfl (fun b9 => ?_) (fun b9 => ?_)
      · have gc20 := (if_pos b9).symm.trans gc20
        refine rx_p (L2 := [some (.ref 115), some (.int a1), some (.int a2), some (.int a3), some (.int a4), some (.int r6)]) (S2 := [.int a4, .int (((24 : Int32) * a1) + a3), .ref 152]) (pc2 := 44) op219_42 rfl rfl ?_
        refine rx_bp (v := 24) (pc2 := 46) op219_44 (by decide) rfl ?_
        refine rx_p (L2 := [some (.ref 115), some (.int a1), some (.int a2), some (.int a3), some (.int a4), some (.int r6)]) (S2 := [.int (a4 <<< (24 &&& 31)), .int (((24 : Int32) * a1) + a3), .ref 152]) (pc2 := 47) op219_46 rfl rfl ?_
        refine rx_bp (v := 24) (pc2 := 49) op219_47 (by decide) rfl ?_
        refine rx_p (L2 := [some (.ref 115), some (.int a1), some (.int a2), some (.int a3), some (.int a4), some (.int r6)]) (S2 := [.int ((a4 <<< (24 &&& 31)) >>> (24 &&& 31)), .int (((24 : Int32) * a1) + a3), .ref 152]) (pc2 := 50) op219_49 rfl rfl ?_
        refine ry_go (tgt := 71) op219_50 (by decide) (by decide) ?_
        obtain rfl := Option.some.inj gc20
        exact c20 _ _ _ _ _ _
      · have gc20 := (if_neg b9).symm.trans gc20
        refine rx_p (L2 := [some (.ref 115), some (.int a1), some (.int a2), some (.int a3), some (.int a4), some (.int r6)]) (S2 := [.int a2, .int (((24 : Int32) * a1) + a3), .ref 152]) (pc2 := 54) op219_53 rfl rfl ?_
        refine rx_ic (v := 1) (pc2 := 55) op219_54 (by decide) rfl ?_
        refine ry_ic_ne (tgt := 69) (pc2 := 58) op219_55 (by decide) (by decide) rfl (fun b10 => ?_) (fun b10 => ?_)
        · have gc20 := (if_pos b10).symm.trans gc20
          refine rx_p (L2 := [some (.ref 115), some (.int a1), some (.int a2), some (.int a3), some (.int a4), some (.int r6)]) (S2 := [.int a4, .int (((24 : Int32) * a1) + a3), .ref 152]) (pc2 := 60) op219_58 rfl rfl ?_
          refine rx_bp (v := 16) (pc2 := 62) op219_60 (by decide) rfl ?_
          refine rx_p (L2 := [some (.ref 115), some (.int a1), some (.int a2), some (.int a3), some (.int a4), some (.int r6)]) (S2 := [.int (a4 <<< (16 &&& 31)), .int (((24 : Int32) * a1) + a3), .ref 152]) (pc2 := 63) op219_62 rfl rfl ?_
          refine rx_bp (v := 16) (pc2 := 65) op219_63 (by decide) rfl ?_
          refine rx_p (L2 := [some (.ref 115), some (.int a1), some (.int a2), some (.int a3), some (.int a4), some (.int r6)]) (S2 := [.int ((a4 <<< (16 &&& 31)) >>> (16 &&& 31)), .int (((24 : Int32) * a1) + a3), .ref 152]) (pc2 := 66) op219_65 rfl rfl ?_
          refine ry_go (tgt := 71) op219_66 (by decide) (by decide) ?_
          obtain rfl := Option.some.inj gc20
          exact c20 _ _ _ _ _ _
        · have gc20 := (if_neg b10).symm.trans gc20
          refine rx_p (L2 := [some (.ref 115), some (.int a1), some (.int a2), some (.int a3), some (.int a4), some (.int r6)]) (S2 := [.int a4, .int (((24 : Int32) * a1) + a3), .ref 152]) (pc2 := 71) op219_69 rfl rfl ?_
          obtain rfl := Option.some.inj gc20
          exact c20 _ _ _ _ _ _
