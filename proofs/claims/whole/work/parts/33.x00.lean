theorem op147_0 : rn_op 147 0 = some (.lload_n 0, 1, 0, 0, 0) := by decide +kernel
theorem op147_1 : rn_op 147 1 = some (.lload_n 2, 1, 0, 0, 0) := by decide +kernel
theorem op147_2 : rn_op 147 2 = some (.lcmp, 1, 0, 0, 0) := by decide +kernel
theorem op147_3 : rn_op 147 3 = some (.ifCond .lt 14, 3, 0, 0, 0) := by decide +kernel
theorem op147_6 : rn_op 147 6 = some (.lload_n 0, 1, 0, 0, 0) := by decide +kernel
theorem op147_7 : rn_op 147 7 = some (.lload 4, 2, 0, 0, 0) := by decide +kernel
theorem op147_9 : rn_op 147 9 = some (.lcmp, 1, 0, 0, 0) := by decide +kernel
theorem op147_10 : rn_op 147 10 = some (.ifCond .gt 7, 3, 0, 0, 0) := by decide +kernel
theorem op147_13 : rn_op 147 13 = some (.iconst 1, 1, 0, 0, 0) := by decide +kernel
theorem op147_14 : rn_op 147 14 = some (.goto 4, 3, 0, 0, 0) := by decide +kernel
theorem op147_17 : rn_op 147 17 = some (.iconst 0, 1, 0, 0, 0) := by decide +kernel
theorem op147_18 : rn_op 147 18 = some (.ireturn, 1, 0, 0, 0) := by decide +kernel
def mo_in (n : Nat) (a0 : Int64) (a1 : Int64) (a2 : Int64) (m : rn_Mem) : Option (Int32 × rn_Mem) :=
  if (lg_cmp a0 a1) < 0 then
    some (0, m)
  else
    if 0 < (lg_cmp a0 a2) then
      some (0, m)
    else
      some (1, m)
set_option maxHeartbeats 4000000 in
set_option maxRecDepth 20000 in
theorem mo_in_ok (xs : List Int32) {d : Nat} (hd : 0 ≤ d) {n : Nat} {a0 : Int64} {a1 : Int64} {a2 : Int64} {m m9 : rn_Mem} {r9 : Int32} (h : mo_in n a0 a1 a2 m = some (r9, m9)) : rn_R xs d 147 0 (rn_ent 6 [.long a0, .long a1, .long a2]) [] (rn_SH, m) (some (.int r9)) (rn_SH, m9) := by
  unfold mo_in at h
  show rn_R xs d 147 0 [some (.long a0), none, some (.long a1), none, some (.long a2), none] [] (rn_SH, m) (some (.int r9)) (rn_SH, m9)
  refine rx_p (L2 := [some (.long a0), none, some (.long a1), none, some (.long a2), none]) (S2 := [.long a0]) (pc2 := 1) op147_0 rfl rfl ?_
  refine rx_p (L2 := [some (.long a0), none, some (.long a1), none, some (.long a2), none]) (S2 := [.long a1, .long a0]) (pc2 := 2) op147_1 rfl rfl ?_
  refine rx_p (L2 := [some (.long a0), none, some (.long a1), none, some (.long a2), none]) (S2 := [.int (lg_cmp a0 a1)]) (pc2 := 3) op147_2 rfl rfl ?_
  refine ry_if_lt (tgt := 17) (pc2 := 6) op147_3 (by decide) (by decide) rfl (fun b1 => ?_) (fun b1 => ?_)
  · have h := (if_pos b1).symm.trans h
    refine rx_ic (v := 0) (pc2 := 18) op147_17 (by decide) rfl ?_
    cases h
    exact ry_rz op147_18 ms_147 rfl (by decide)
  · have h := (if_neg b1).symm.trans h
    refine rx_p (L2 := [some (.long a0), none, some (.long a1), none, some (.long a2), none]) (S2 := [.long a0]) (pc2 := 7) op147_6 rfl rfl ?_
    refine rx_p (L2 := [some (.long a0), none, some (.long a1), none, some (.long a2), none]) (S2 := [.long a2, .long a0]) (pc2 := 9) op147_7 rfl rfl ?_
    refine rx_p (L2 := [some (.long a0), none, some (.long a1), none, some (.long a2), none]) (S2 := [.int (lg_cmp a0 a2)]) (pc2 := 10) op147_9 rfl rfl ?_
    refine ry_if_gt (tgt := 17) (pc2 := 13) op147_10 (by decide) (by decide) rfl (fun b2 => ?_) (fun b2 => ?_)
    · have h := (if_pos b2).symm.trans h
      refine rx_ic (v := 0) (pc2 := 18) op147_17 (by decide) rfl ?_
      cases h
      exact ry_rz op147_18 ms_147 rfl (by decide)
    · have h := (if_neg b2).symm.trans h
      refine rx_ic (v := 1) (pc2 := 14) op147_13 (by decide) rfl ?_
      refine ry_go (tgt := 18) op147_14 (by decide) (by decide) ?_
      cases h
      exact ry_rz op147_18 ms_147 rfl (by decide)
theorem op155_0 : rn_op 155 0 = some (.aload_n 0, 1, 0, 0, 0) := by decide +kernel
theorem op155_1 : rn_op 155 1 = some (.getfield 7, 3, 11, 0, 3) := by decide +kernel
theorem op155_4 : rn_op 155 4 = some (.iconst 1, 1, 0, 0, 0) := by decide +kernel
theorem op155_5 : rn_op 155 5 = some (.iaload, 1, 0, 0, 0) := by decide +kernel
theorem op155_6 : rn_op 155 6 = some (.aload_n 0, 1, 0, 0, 0) := by decide +kernel
theorem op155_7 : rn_op 155 7 = some (.getfield 7, 3, 11, 0, 3) := by decide +kernel
theorem op155_10 : rn_op 155 10 = some (.iconst 2, 1, 0, 0, 0) := by decide +kernel
theorem op155_11 : rn_op 155 11 = some (.iaload, 1, 0, 0, 0) := by decide +kernel
theorem op155_12 : rn_op 155 12 = some (.imul, 1, 0, 0, 0) := by decide +kernel
theorem op155_13 : rn_op 155 13 = some (.ireturn, 1, 0, 0, 0) := by decide +kernel
def mo_size (n : Nat)  (m : rn_Mem) : Option (Int32 × rn_Mem) :=
  some ((m.1 116 1) * (m.1 116 2), m)
set_option maxHeartbeats 4000000 in
set_option maxRecDepth 20000 in
theorem mo_size_ok (xs : List Int32) {d : Nat} (hd : 0 ≤ d) {n : Nat} {m m9 : rn_Mem} {r9 : Int32} (h : mo_size n  m = some (r9, m9)) : rn_R xs d 155 0 (rn_ent 1 [.ref 115]) [] (rn_SH, m) (some (.int r9)) (rn_SH, m9) := by
  unfold mo_size at h
  show rn_R xs d 155 0 [some (.ref 115)] [] (rn_SH, m) (some (.int r9)) (rn_SH, m9)
  refine rx_p (L2 := [some (.ref 115)]) (S2 := [.ref 115]) (pc2 := 1) op155_0 rfl rfl ?_
  refine rx_gf (v := .ref 116) (pc2 := 4) op155_1 sp_115 rfl rfl rfl ?_
  refine rx_ic (v := 1) (pc2 := 5) op155_4 (by decide) rfl ?_
  refine rx_ia (j := 1) (pc2 := 6) op155_5 (rn_shlt sp_116) sp_116 (by decide) (by decide) rfl ?_
  refine rx_p (L2 := [some (.ref 115)]) (S2 := [.ref 115, .int (m.1 116 1)]) (pc2 := 7) op155_6 rfl rfl ?_
  refine rx_gf (v := .ref 116) (pc2 := 10) op155_7 sp_115 rfl rfl rfl ?_
  refine rx_ic (v := 2) (pc2 := 11) op155_10 (by decide) rfl ?_
  refine rx_ia (j := 2) (pc2 := 12) op155_11 (rn_shlt sp_116) sp_116 (by decide) (by decide) rfl ?_
  refine rx_p (L2 := [some (.ref 115)]) (S2 := [.int ((m.1 116 1) * (m.1 116 2))]) (pc2 := 13) op155_12 rfl rfl ?_
  cases h
  exact ry_ri op155_13 ms_155 rfl
theorem op167_0 : rn_op 167 0 = some (.iload_n 1, 1, 0, 0, 0) := by decide +kernel
theorem op167_1 : rn_op 167 1 = some (.i2l, 1, 0, 0, 0) := by decide +kernel
theorem op167_2 : rn_op 167 2 = some (.lconst 0, 1, 0, 0, 0) := by decide +kernel
theorem op167_3 : rn_op 167 3 = some (.aload_n 0, 1, 0, 0, 0) := by decide +kernel
theorem op167_4 : rn_op 167 4 = some (.getfield 7, 3, 11, 0, 3) := by decide +kernel
theorem op167_7 : rn_op 167 7 = some (.iconst 1, 1, 0, 0, 0) := by decide +kernel
theorem op167_8 : rn_op 167 8 = some (.iaload, 1, 0, 0, 0) := by decide +kernel
theorem op167_9 : rn_op 167 9 = some (.iconst 1, 1, 0, 0, 0) := by decide +kernel
theorem op167_10 : rn_op 167 10 = some (.isub, 1, 0, 0, 0) := by decide +kernel
theorem op167_11 : rn_op 167 11 = some (.i2l, 1, 0, 0, 0) := by decide +kernel
theorem op167_12 : rn_op 167 12 = some (.invokestatic 121, 3, 147, 3, 0) := by decide +kernel
theorem op167_15 : rn_op 167 15 = some (.ireturn, 1, 0, 0, 0) := by decide +kernel
def mo_isChair (n : Nat) (a1 : Int32) (m : rn_Mem) : Option (Int32 × rn_Mem) :=
  (mo_in n (a1.toInt64) 0 (((m.1 116 1) - 1).toInt64) m).bind fun (r2, m1) =>
  if r2 = 0 ∨ r2 = 1 then
    some (r2, m1)
  else none
set_option maxHeartbeats 4000000 in
set_option maxRecDepth 20000 in
theorem mo_isChair_ok (xs : List Int32) {d : Nat} (hd : 1 ≤ d) {n : Nat} {a1 : Int32} {m m9 : rn_Mem} {r9 : Int32} (h : mo_isChair n a1 m = some (r9, m9)) : rn_R xs d 167 0 (rn_ent 2 [.ref 115, .int a1]) [] (rn_SH, m) (some (.int r9)) (rn_SH, m9) := by
  obtain ⟨d, rfl⟩ : ∃ e, d = e + 1 := ⟨d - 1, by omega⟩
  unfold mo_isChair at h
  show rn_R xs (d + 1) 167 0 [some (.ref 115), some (.int a1)] [] (rn_SH, m) (some (.int r9)) (rn_SH, m9)
  refine rx_p (L2 := [some (.ref 115), some (.int a1)]) (S2 := [.int a1]) (pc2 := 1) op167_0 rfl rfl ?_
  refine rx_p (L2 := [some (.ref 115), some (.int a1)]) (S2 := [.long (a1.toInt64)]) (pc2 := 2) op167_1 rfl rfl ?_
  refine rx_lc (v := 0) (pc2 := 3) op167_2 (by decide) rfl ?_
  refine rx_p (L2 := [some (.ref 115), some (.int a1)]) (S2 := [.ref 115, .long 0, .long (a1.toInt64)]) (pc2 := 4) op167_3 rfl rfl ?_
  refine rx_gf (v := .ref 116) (pc2 := 7) op167_4 sp_115 rfl rfl rfl ?_
  refine rx_ic (v := 1) (pc2 := 8) op167_7 (by decide) rfl ?_
  refine rx_ia (j := 1) (pc2 := 9) op167_8 (rn_shlt sp_116) sp_116 (by decide) (by decide) rfl ?_
  refine rx_ic (v := 1) (pc2 := 10) op167_9 (by decide) rfl ?_
  refine rx_p (L2 := [some (.ref 115), some (.int a1)]) (S2 := [.int ((m.1 116 1) - 1), .long 0, .long (a1.toInt64)]) (pc2 := 11) op167_10 rfl rfl ?_
  refine rx_p (L2 := [some (.ref 115), some (.int a1)]) (S2 := [.long (((m.1 116 1) - 1).toInt64), .long 0, .long (a1.toInt64)]) (pc2 := 12) op167_11 rfl rfl ?_
  obtain ⟨⟨r2, m1⟩, f3, h⟩ := rq_bind h
  try dsimp only at h
  refine ry_is (vs := [.long (a1.toInt64), .long 0, .long (((m.1 116 1) - 1).toInt64)]) (T := []) (pc2 := 15) op167_12 (by decide) ms_147 (by decide) rfl rfl (Nat.le_of_ble_eq_true rfl) (Nat.le_of_ble_eq_true rfl) (mo_in_ok xs (by omega)  f3) rfl ?_
  show rn_R _ _ _ _ _ [.int r2] _ _ _
  obtain ⟨k4, h⟩ := rq_chk h
  cases h
  exact ry_rz op167_15 ms_167 rfl k4
theorem op169_0 : rn_op 169 0 = some (.iload_n 1, 1, 0, 0, 0) := by decide +kernel
theorem op169_1 : rn_op 169 1 = some (.i2l, 1, 0, 0, 0) := by decide +kernel
theorem op169_2 : rn_op 169 2 = some (.lconst 0, 1, 0, 0, 0) := by decide +kernel
theorem op169_3 : rn_op 169 3 = some (.ldc2_w 125, 3, 15, 0, 0) := by decide +kernel
theorem op169_6 : rn_op 169 6 = some (.invokestatic 121, 3, 147, 3, 0) := by decide +kernel
theorem op169_9 : rn_op 169 9 = some (.ifCond .eq 21, 3, 0, 0, 0) := by decide +kernel
theorem op169_12 : rn_op 169 12 = some (.aload_n 0, 1, 0, 0, 0) := by decide +kernel
theorem op169_13 : rn_op 169 13 = some (.getfield 7, 3, 11, 0, 3) := by decide +kernel
theorem op169_16 : rn_op 169 16 = some (.iconst 3, 1, 0, 0, 0) := by decide +kernel
theorem op169_17 : rn_op 169 17 = some (.iaload, 1, 0, 0, 0) := by decide +kernel
theorem op169_18 : rn_op 169 18 = some (.iload_n 1, 1, 0, 0, 0) := by decide +kernel
theorem op169_19 : rn_op 169 19 = some (.ishr, 1, 0, 0, 0) := by decide +kernel
theorem op169_20 : rn_op 169 20 = some (.iconst 1, 1, 0, 0, 0) := by decide +kernel
theorem op169_21 : rn_op 169 21 = some (.iand, 1, 0, 0, 0) := by decide +kernel
theorem op169_22 : rn_op 169 22 = some (.iconst 1, 1, 0, 0, 0) := by decide +kernel
theorem op169_23 : rn_op 169 23 = some (.if_icmp .ne 7, 3, 0, 0, 0) := by decide +kernel
theorem op169_26 : rn_op 169 26 = some (.iconst 1, 1, 0, 0, 0) := by decide +kernel
theorem op169_27 : rn_op 169 27 = some (.goto 4, 3, 0, 0, 0) := by decide +kernel
theorem op169_30 : rn_op 169 30 = some (.iconst 0, 1, 0, 0, 0) := by decide +kernel
theorem op169_31 : rn_op 169 31 = some (.ireturn, 1, 0, 0, 0) := by decide +kernel
def mo_isInPack (n : Nat) (a1 : Int32) (m : rn_Mem) : Option (Int32 × rn_Mem) :=
  (mo_in n (a1.toInt64) 0 15 m).bind fun (r2, m1) =>
  if r2 = 0 then
    some (0, m1)
  else
    if (((m1.1 116 3) >>> (a1 &&& 31)) &&& 1) = 1 then
      some (1, m1)
    else
      some (0, m1)
set_option maxHeartbeats 4000000 in
set_option maxRecDepth 20000 in
theorem mo_isInPack_ok (xs : List Int32) {d : Nat} (hd : 1 ≤ d) {n : Nat} {a1 : Int32} {m m9 : rn_Mem} {r9 : Int32} (h : mo_isInPack n a1 m = some (r9, m9)) : rn_R xs d 169 0 (rn_ent 2 [.ref 115, .int a1]) [] (rn_SH, m) (some (.int r9)) (rn_SH, m9) := by
  obtain ⟨d, rfl⟩ : ∃ e, d = e + 1 := ⟨d - 1, by omega⟩
  unfold mo_isInPack at h
  show rn_R xs (d + 1) 169 0 [some (.ref 115), some (.int a1)] [] (rn_SH, m) (some (.int r9)) (rn_SH, m9)
  refine rx_p (L2 := [some (.ref 115), some (.int a1)]) (S2 := [.int a1]) (pc2 := 1) op169_0 rfl rfl ?_
  refine rx_p (L2 := [some (.ref 115), some (.int a1)]) (S2 := [.long (a1.toInt64)]) (pc2 := 2) op169_1 rfl rfl ?_
  refine rx_lc (v := 0) (pc2 := 3) op169_2 (by decide) rfl ?_
  refine rx_ld2 (v := 15) (pc2 := 6) op169_3 (by decide) rfl ?_
  obtain ⟨⟨r2, m1⟩, f3, h⟩ := rq_bind h
  try dsimp only at h
  refine ry_is (vs := [.long (a1.toInt64), .long 0, .long 15]) (T := []) (pc2 := 9) op169_6 (by decide) ms_147 (by decide) rfl rfl (Nat.le_of_ble_eq_true rfl) (Nat.le_of_ble_eq_true rfl) (mo_in_ok xs (by omega)  f3) rfl ?_
  show rn_R _ _ _ _ _ [.int r2] _ _ _
  refine ry_if_eq (tgt := 30) (pc2 := 12) op169_9 (by decide) (by decide) rfl (fun b4 => ?_) (fun b4 => ?_)
  · have h := (if_pos b4).symm.trans h
    refine rx_ic (v := 0) (pc2 := 31) op169_30 (by decide) rfl ?_
    cases h
    exact ry_rz op169_31 ms_169 rfl (by decide)
  · have h := (if_neg b4).symm.trans h
    refine rx_p (L2 := [some (.ref 115), some (.int a1)]) (S2 := [.ref 115]) (pc2 := 13) op169_12 rfl rfl ?_
    refine rx_gf (v := .ref 116) (pc2 := 16) op169_13 sp_115 rfl rfl rfl ?_
    refine rx_ic (v := 3) (pc2 := 17) op169_16 (by decide) rfl ?_
    refine rx_ia (j := 3) (pc2 := 18) op169_17 (rn_shlt sp_116) sp_116 (by decide) (by decide) rfl ?_
    refine rx_p (L2 := [some (.ref 115), some (.int a1)]) (S2 := [.int a1, .int (m1.1 116 3)]) (pc2 := 19) op169_18 rfl rfl ?_
    refine rx_p (L2 := [some (.ref 115), some (.int a1)]) (S2 := [.int ((m1.1 116 3) >>> (a1 &&& 31))]) (pc2 := 20) op169_19 rfl rfl ?_
    refine rx_ic (v := 1) (pc2 := 21) op169_20 (by decide) rfl ?_
    refine rx_p (L2 := [some (.ref 115), some (.int a1)]) (S2 := [.int (((m1.1 116 3) >>> (a1 &&& 31)) &&& 1)]) (pc2 := 22) op169_21 rfl rfl ?_
    refine rx_ic (v := 1) (pc2 := 23) op169_22 (by decide) rfl ?_
    refine ry_ic_ne (tgt := 30) (pc2 := 26) op169_23 (by decide) (by decide) rfl (fun b5 => ?_) (fun b5 => ?_)
    · have h := (if_pos b5).symm.trans h
      refine rx_ic (v := 1) (pc2 := 27) op169_26 (by decide) rfl ?_
      refine ry_go (tgt := 31) op169_27 (by decide) (by decide) ?_
      cases h
      exact ry_rz op169_31 ms_169 rfl (by decide)
    · have h := (if_neg b5).symm.trans h
      refine rx_ic (v := 0) (pc2 := 31) op169_30 (by decide) rfl ?_
      cases h
      exact ry_rz op169_31 ms_169 rfl (by decide)
theorem op162_0 : rn_op 162 0 = some (.iload_n 0, 1, 0, 0, 0) := by decide +kernel
theorem op162_1 : rn_op 162 1 = some (.iconst 4, 1, 0, 0, 0) := by decide +kernel
theorem op162_2 : rn_op 162 2 = some (.idiv, 1, 0, 0, 0) := by decide +kernel
theorem op162_3 : rn_op 162 3 = some (.ireturn, 1, 0, 0, 0) := by decide +kernel
def mo_suitOf (n : Nat) (a0 : Int32) (m : rn_Mem) : Option (Int32 × rn_Mem) :=
  some (a0 / 4, m)
set_option maxHeartbeats 4000000 in
set_option maxRecDepth 20000 in
theorem mo_suitOf_ok (xs : List Int32) {d : Nat} (hd : 0 ≤ d) {n : Nat} {a0 : Int32} {m m9 : rn_Mem} {r9 : Int32} (h : mo_suitOf n a0 m = some (r9, m9)) : rn_R xs d 162 0 (rn_ent 1 [.int a0]) [] (rn_SH, m) (some (.int r9)) (rn_SH, m9) := by
  unfold mo_suitOf at h
  show rn_R xs d 162 0 [some (.int a0)] [] (rn_SH, m) (some (.int r9)) (rn_SH, m9)
  refine rx_p (L2 := [some (.int a0)]) (S2 := [.int a0]) (pc2 := 1) op162_0 rfl rfl ?_
  refine rx_ic (v := 4) (pc2 := 2) op162_1 (by decide) rfl ?_
  refine rx_div (v := a0 / 4) (pc2 := 3) op162_2 (by decide) rfl rfl ?_
  cases h
  exact ry_ri op162_3 ms_162 rfl
theorem op161_0 : rn_op 161 0 = some (.iconst 0, 1, 0, 0, 0) := by decide +kernel
theorem op161_1 : rn_op 161 1 = some (.istore 5, 2, 0, 0, 0) := by decide +kernel
theorem op161_3 : rn_op 161 3 = some (.iconst 1, 1, 0, 0, 0) := by decide +kernel
theorem op161_4 : rn_op 161 4 = some (.istore 6, 2, 0, 0, 0) := by decide +kernel
theorem op161_6 : rn_op 161 6 = some (.iload 6, 2, 0, 0, 0) := by decide +kernel
theorem op161_8 : rn_op 161 8 = some (.iload_n 3, 1, 0, 0, 0) := by decide +kernel
theorem op161_9 : rn_op 161 9 = some (.if_icmp .ge 84, 3, 0, 0, 0) := by decide +kernel
theorem op161_12 : rn_op 161 12 = some (.aload_n 1, 1, 0, 0, 0) := by decide +kernel
theorem op161_13 : rn_op 161 13 = some (.iload_n 2, 1, 0, 0, 0) := by decide +kernel
theorem op161_14 : rn_op 161 14 = some (.iload 6, 2, 0, 0, 0) := by decide +kernel
theorem op161_16 : rn_op 161 16 = some (.iadd, 1, 0, 0, 0) := by decide +kernel
theorem op161_17 : rn_op 161 17 = some (.iaload, 1, 0, 0, 0) := by decide +kernel
theorem op161_18 : rn_op 161 18 = some (.istore 7, 2, 0, 0, 0) := by decide +kernel
theorem op161_20 : rn_op 161 20 = some (.aload_n 1, 1, 0, 0, 0) := by decide +kernel
theorem op161_21 : rn_op 161 21 = some (.iload_n 2, 1, 0, 0, 0) := by decide +kernel
theorem op161_22 : rn_op 161 22 = some (.iload 5, 2, 0, 0, 0) := by decide +kernel
theorem op161_24 : rn_op 161 24 = some (.iadd, 1, 0, 0, 0) := by decide +kernel
theorem op161_25 : rn_op 161 25 = some (.iaload, 1, 0, 0, 0) := by decide +kernel
theorem op161_26 : rn_op 161 26 = some (.istore 8, 2, 0, 0, 0) := by decide +kernel
theorem op161_28 : rn_op 161 28 = some (.iload 7, 2, 0, 0, 0) := by decide +kernel
theorem op161_30 : rn_op 161 30 = some (.invokestatic 185, 3, 162, 1, 0) := by decide +kernel
theorem op161_33 : rn_op 161 33 = some (.iload 8, 2, 0, 0, 0) := by decide +kernel
theorem op161_35 : rn_op 161 35 = some (.invokestatic 185, 3, 162, 1, 0) := by decide +kernel
theorem op161_38 : rn_op 161 38 = some (.if_icmp .ne 18, 3, 0, 0, 0) := by decide +kernel
theorem op161_41 : rn_op 161 41 = some (.iload 7, 2, 0, 0, 0) := by decide +kernel
theorem op161_43 : rn_op 161 43 = some (.iload 8, 2, 0, 0, 0) := by decide +kernel
theorem op161_45 : rn_op 161 45 = some (.if_icmp .le 7, 3, 0, 0, 0) := by decide +kernel
theorem op161_48 : rn_op 161 48 = some (.iconst 1, 1, 0, 0, 0) := by decide +kernel
theorem op161_49 : rn_op 161 49 = some (.goto 22, 3, 0, 0, 0) := by decide +kernel
theorem op161_52 : rn_op 161 52 = some (.iconst 0, 1, 0, 0, 0) := by decide +kernel
theorem op161_53 : rn_op 161 53 = some (.goto 18, 3, 0, 0, 0) := by decide +kernel
theorem op161_56 : rn_op 161 56 = some (.iload 7, 2, 0, 0, 0) := by decide +kernel
theorem op161_58 : rn_op 161 58 = some (.invokestatic 185, 3, 162, 1, 0) := by decide +kernel
theorem op161_61 : rn_op 161 61 = some (.iload 4, 2, 0, 0, 0) := by decide +kernel
theorem op161_63 : rn_op 161 63 = some (.if_icmp .ne 7, 3, 0, 0, 0) := by decide +kernel
theorem op161_66 : rn_op 161 66 = some (.iconst 1, 1, 0, 0, 0) := by decide +kernel
theorem op161_67 : rn_op 161 67 = some (.goto 4, 3, 0, 0, 0) := by decide +kernel
theorem op161_70 : rn_op 161 70 = some (.iconst 0, 1, 0, 0, 0) := by decide +kernel
theorem op161_71 : rn_op 161 71 = some (.istore 9, 2, 0, 0, 0) := by decide +kernel
theorem op161_73 : rn_op 161 73 = some (.iload 9, 2, 0, 0, 0) := by decide +kernel
theorem op161_75 : rn_op 161 75 = some (.ifCond .eq 8, 3, 0, 0, 0) := by decide +kernel
theorem op161_78 : rn_op 161 78 = some (.iload 6, 2, 0, 0, 0) := by decide +kernel
theorem op161_80 : rn_op 161 80 = some (.goto 5, 3, 0, 0, 0) := by decide +kernel
theorem op161_83 : rn_op 161 83 = some (.iload 5, 2, 0, 0, 0) := by decide +kernel
theorem op161_85 : rn_op 161 85 = some (.istore 5, 2, 0, 0, 0) := by decide +kernel
theorem op161_87 : rn_op 161 87 = some (.iinc 6 1, 3, 0, 0, 0) := by decide +kernel
theorem op161_90 : rn_op 161 90 = some (.goto (-84), 3, 0, 0, 0) := by decide +kernel
theorem op161_93 : rn_op 161 93 = some (.iload 5, 2, 0, 0, 0) := by decide +kernel
theorem op161_95 : rn_op 161 95 = some (.ireturn, 1, 0, 0, 0) := by decide +kernel
def mo_winning_l6 (q1 : Nat) (a2 : Int32) (a3 : Int32) (a4 : Int32) : Nat → Int32 → Int32 → rn_Mem → Option (Int32 × rn_Mem)
  | 0, _, _, _ => none
  | n + 1, a5, a6, m =>
    if a6 < a3 then
      if rn_in (a2 + a6) (rn_al q1) = true then
        (some (m.1 q1 (a2 + a6).toNatClampNeg)).bind fun (x3 : Int32) =>
        if rn_in (a2 + a5) (rn_al q1) = true then
          (some (m.1 q1 (a2 + a5).toNatClampNeg)).bind fun (x5 : Int32) =>
          (mo_suitOf n x3 m).bind fun (r7, m6) =>
          (mo_suitOf n x5 m6).bind fun (r10, m9) =>
          (show Option (Int32 × rn_Mem) from
            if r7 = r10 then
              if x5 < x3 then
                some (1, m9)
              else
                some (0, m9)
            else
              (mo_suitOf n x3 m9).bind fun (r15, m14) =>
              if r15 = a4 then
                some (1, m14)
              else
                some (0, m14)).bind fun (x22, m23) =>
          (show Option (Int32) from
            if x22 = 0 then
              some (a5)
            else
              some (a6)).bind fun x31 =>
          (some (a6 + 1)).bind fun (x32 : Int32) =>
          mo_winning_l6 q1 a2 a3 a4 n x31 x32 m23
        else none
      else none
    else
      some (a5, m)
def mo_winning (n : Nat) (q1 : Nat) (a2 : Int32) (a3 : Int32) (a4 : Int32) (m : rn_Mem) : Option (Int32 × rn_Mem) :=
  (mo_winning_l6 q1 a2 a3 a4 n 0 1 m).bind fun (x41, m35) =>
  some (x41, m35)
set_option maxHeartbeats 4000000 in
set_option maxRecDepth 20000 in
theorem mo_winning_l6_ok (xs : List Int32) {d : Nat} (hd : 1 ≤ d + 1) {q1 : Nat} {a2 : Int32} {a3 : Int32} {a4 : Int32} {r : Option Value} {τ : rn_H} {out : Int32 × rn_Mem} (hr : ∀ (z5 : Int32) (m9 : rn_Mem), out = (z5, m9) → ∀ (o0 o1 o2 o3 o4 o6 o7 o8 o9 : Option Value), rn_R xs (d + 1) 161 93 [o0, o1, o2, o3, o4, some (.int z5), o6, o7, o8, o9] [] (rn_SH, m9) r τ) : ∀ (n : Nat) (a5 : Int32) (a6 : Int32) (o0 o7 o8 o9 : Option Value) (m : rn_Mem), sA_arr q1 → mo_winning_l6 q1 a2 a3 a4 n a5 a6 m = some out → rn_R xs (d + 1) 161 6 [o0, some (.ref q1), some (.int a2), some (.int a3), some (.int a4), some (.int a5), some (.int a6), o7, o8, o9] [] (rn_SH, m) r τ := by
  intro n
  induction n with
  | zero =>
    intro _ _ _ _ _ _ _ _ h
    cases h
  | succ n ih =>
    intro a5 a6 o0 o7 o8 o9 m hq1 h
    unfold mo_winning_l6 at h
    try dsimp only at h
    refine rx_p (L2 := [o0, some (.ref q1), some (.int a2), some (.int a3), some (.int a4), some (.int a5), some (.int a6), o7, o8, o9]) (S2 := [.int a6]) (pc2 := 8) op161_6 rfl rfl ?_
    refine rx_p (L2 := [o0, some (.ref q1), some (.int a2), some (.int a3), some (.int a4), some (.int a5), some (.int a6), o7, o8, o9]) (S2 := [.int a3, .int a6]) (pc2 := 9) op161_8 rfl rfl ?_
    refine ry_ic_ge (tgt := 93) (pc2 := 12) op161_9 (by decide) (by decide) rfl (fun b1 => ?_) (fun b1 => ?_)
    · have h := (if_pos b1).symm.trans h
      refine rx_p (L2 := [o0, some (.ref q1), some (.int a2), some (.int a3), some (.int a4), some (.int a5), some (.int a6), o7, o8, o9]) (S2 := [.ref q1]) (pc2 := 13) op161_12 rfl rfl ?_
      refine rx_p (L2 := [o0, some (.ref q1), some (.int a2), some (.int a3), some (.int a4), some (.int a5), some (.int a6), o7, o8, o9]) (S2 := [.int a2, .ref q1]) (pc2 := 14) op161_13 rfl rfl ?_
      refine rx_p (L2 := [o0, some (.ref q1), some (.int a2), some (.int a3), some (.int a4), some (.int a5), some (.int a6), o7, o8, o9]) (S2 := [.int a6, .int a2, .ref q1]) (pc2 := 16) op161_14 rfl rfl ?_
      refine rx_p (L2 := [o0, some (.ref q1), some (.int a2), some (.int a3), some (.int a4), some (.int a5), some (.int a6), o7, o8, o9]) (S2 := [.int (a2 + a6), .ref q1]) (pc2 := 17) op161_16 rfl rfl ?_
      obtain ⟨k2, h⟩ := rq_chk h
      refine rx_ia (pc2 := 18) op161_17 (rn_shlt hq1) hq1 k2 rfl rfl ?_
      obtain ⟨x3, ex3, h⟩ := rq_bv h
      refine rx_s (v := x3) (L2 := [o0, some (.ref q1), some (.int a2), some (.int a3), some (.int a4), some (.int a5), some (.int a6), some (.int x3), o8, o9]) (pc2 := 20) op161_18 ex3 rfl rfl ?_
      refine rx_p (L2 := [o0, some (.ref q1), some (.int a2), some (.int a3), some (.int a4), some (.int a5), some (.int a6), some (.int x3), o8, o9]) (S2 := [.ref q1]) (pc2 := 21) op161_20 rfl rfl ?_
      refine rx_p (L2 := [o0, some (.ref q1), some (.int a2), some (.int a3), some (.int a4), some (.int a5), some (.int a6), some (.int x3), o8, o9]) (S2 := [.int a2, .ref q1]) (pc2 := 22) op161_21 rfl rfl ?_
      refine rx_p (L2 := [o0, some (.ref q1), some (.int a2), some (.int a3), some (.int a4), some (.int a5), some (.int a6), some (.int x3), o8, o9]) (S2 := [.int a5, .int a2, .ref q1]) (pc2 := 24) op161_22 rfl rfl ?_
      refine rx_p (L2 := [o0, some (.ref q1), some (.int a2), some (.int a3), some (.int a4), some (.int a5), some (.int a6), some (.int x3), o8, o9]) (S2 := [.int (a2 + a5), .ref q1]) (pc2 := 25) op161_24 rfl rfl ?_
      obtain ⟨k4, h⟩ := rq_chk h
      refine rx_ia (pc2 := 26) op161_25 (rn_shlt hq1) hq1 k4 rfl rfl ?_
      obtain ⟨x5, ex5, h⟩ := rq_bv h
      refine rx_s (v := x5) (L2 := [o0, some (.ref q1), some (.int a2), some (.int a3), some (.int a4), some (.int a5), some (.int a6), some (.int x3), some (.int x5), o9]) (pc2 := 28) op161_26 ex5 rfl rfl ?_
      refine rx_p (L2 := [o0, some (.ref q1), some (.int a2), some (.int a3), some (.int a4), some (.int a5), some (.int a6), some (.int x3), some (.int x5), o9]) (S2 := [.int x3]) (pc2 := 30) op161_28 rfl rfl ?_
      obtain ⟨⟨r7, m6⟩, f8, h⟩ := rq_bind h
      try dsimp only at h
      refine ry_is (vs := [.int x3]) (T := []) (pc2 := 33) op161_30 (by decide) ms_162 (by decide) rfl rfl (Nat.le_of_ble_eq_true rfl) (Nat.le_of_ble_eq_true rfl) (mo_suitOf_ok xs (by omega)  f8) rfl ?_
      show rn_R _ _ _ _ _ [.int r7] _ _ _
      refine rx_p (L2 := [o0, some (.ref q1), some (.int a2), some (.int a3), some (.int a4), some (.int a5), some (.int a6), some (.int x3), some (.int x5), o9]) (S2 := [.int x5, .int r7]) (pc2 := 35) op161_33 rfl rfl ?_
      obtain ⟨⟨r10, m9⟩, f11, h⟩ := rq_bind h
      try dsimp only at h
      refine ry_is (vs := [.int x5]) (T := [.int r7]) (pc2 := 38) op161_35 (by decide) ms_162 (by decide) rfl rfl (Nat.le_of_ble_eq_true rfl) (Nat.le_of_ble_eq_true rfl) (mo_suitOf_ok xs (by omega)  f11) rfl ?_
      show rn_R _ _ _ _ _ [.int r10, .int r7] _ _ _
      obtain ⟨⟨x22, m23⟩, gc34, h⟩ := rq_bind h
      try dsimp only at h
      have c34 : ∀ (o18 o19 o20 o21 : Option Value), rn_R xs (d + 1) 161 71 [o18, some (.ref q1), some (.int a2), some (.int a3), some (.int a4), some (.int a5), some (.int a6), o19, o20, o21] [.int x22] (rn_SH, m23) r τ := by
        intro o18 o19 o20 o21
        refine rx_sd (v := x22) (j := 8) (pc2 := 73) op161_71 rfl rfl (Nat.le_of_ble_eq_true rfl) rfl (fun o24 => ?_)
        show rn_R _ _ _ _ [o18, some (.ref q1), some (.int a2), some (.int a3), some (.int a4), some (.int a5), some (.int a6), o19, o24, some (.int x22)] _ _ _ _
        refine rx_p (L2 := [o18, some (.ref q1), some (.int a2), some (.int a3), some (.int a4), some (.int a5), some (.int a6), o19, o24, some (.int x22)]) (S2 := [.int x22]) (pc2 := 75) op161_73 rfl rfl ?_
        obtain ⟨x31, gc33, h⟩ := rq_bind h
        try dsimp only at h
        have c33 : ∀ (o26 o27 o28 o29 o30 : Option Value), rn_R xs (d + 1) 161 85 [o26, some (.ref q1), some (.int a2), some (.int a3), some (.int a4), o27, some (.int a6), o28, o29, o30] [.int x31] (rn_SH, m23) r τ := by
          intro o26 o27 o28 o29 o30
          refine rx_s (L2 := [o26, some (.ref q1), some (.int a2), some (.int a3), some (.int a4), some (.int x31), some (.int a6), o28, o29, o30]) (pc2 := 87) op161_85 rfl rfl rfl ?_
          obtain ⟨x32, ex32, h⟩ := rq_bv h
          refine rx_inc (w := 1) (v := x32) (L2 := [o26, some (.ref q1), some (.int a2), some (.int a3), some (.int a4), some (.int x31), some (.int x32), o28, o29, o30]) (pc2 := 90) op161_87 rfl (by decide) ex32 rfl rfl ?_
          refine ry_go (tgt := 6) op161_90 (by decide) (by decide) ?_
          exact ih _ _ _ _ _ _ _ hq1 h
        refine ry_if_eq (tgt := 83) (pc2 := 78) op161_75 (by decide) (by decide) rfl (fun b25 => ?_) (fun b25 => ?_)
        · have gc33 := (if_pos b25).symm.trans gc33
          refine rx_p (L2 := [o18, some (.ref q1), some (.int a2), some (.int a3), some (.int a4), some (.int a5), some (.int a6), o19, o24, some (.int x22)]) (S2 := [.int a5]) (pc2 := 85) op161_83 rfl rfl ?_
          cases gc33
          exact c33 _ _ _ _ _
        · have gc33 := (if_neg b25).symm.trans gc33
          refine rx_p (L2 := [o18, some (.ref q1), some (.int a2), some (.int a3), some (.int a4), some (.int a5), some (.int a6), o19, o24, some (.int x22)]) (S2 := [.int a6]) (pc2 := 80) op161_78 rfl rfl ?_
          refine ry_go (tgt := 85) op161_80 (by decide) (by decide) ?_
          cases gc33
          exact c33 _ _ _ _ _
      refine ry_ic_ne (tgt := 56) (pc2 := 41) op161_38 (by decide) (by decide) rfl (fun b12 => ?_) (fun b12 => ?_)
      · have gc34 := (if_pos b12).symm.trans gc34
        refine rx_p (L2 := [o0, some (.ref q1), some (.int a2), some (.int a3), some (.int a4), some (.int a5), some (.int a6), some (.int x3), some (.int x5), o9]) (S2 := [.int x3]) (pc2 := 43) op161_41 rfl rfl ?_
        refine rx_p (L2 := [o0, some (.ref q1), some (.int a2), some (.int a3), some (.int a4), some (.int a5), some (.int a6), some (.int x3), some (.int x5), o9]) (S2 := [.int x5, .int x3]) (pc2 := 45) op161_43 rfl rfl ?_
        refine ry_ic_le (tgt := 52) (pc2 := 48) op161_45 (by decide) (by decide) rfl (fun b13 => ?_) (fun b13 => ?_)
        · have gc34 := (if_pos b13).symm.trans gc34
          refine rx_ic (v := 1) (pc2 := 49) op161_48 (by decide) rfl ?_
          refine ry_go (tgt := 71) op161_49 (by decide) (by decide) ?_
          cases gc34
          exact c34 _ _ _ _
        · have gc34 := (if_neg b13).symm.trans gc34
          refine rx_ic (v := 0) (pc2 := 53) op161_52 (by decide) rfl ?_
          refine ry_go (tgt := 71) op161_53 (by decide) (by decide) ?_
          cases gc34
          exact c34 _ _ _ _
      · have gc34 := (if_neg b12).symm.trans gc34
        refine rx_p (L2 := [o0, some (.ref q1), some (.int a2), some (.int a3), some (.int a4), some (.int a5), some (.int a6), some (.int x3), some (.int x5), o9]) (S2 := [.int x3]) (pc2 := 58) op161_56 rfl rfl ?_
        obtain ⟨⟨r15, m14⟩, f16, gc34⟩ := rq_bind gc34
        try dsimp only at gc34
        refine ry_is (vs := [.int x3]) (T := []) (pc2 := 61) op161_58 (by decide) ms_162 (by decide) rfl rfl (Nat.le_of_ble_eq_true rfl) (Nat.le_of_ble_eq_true rfl) (mo_suitOf_ok xs (by omega)  f16) rfl ?_
        show rn_R _ _ _ _ _ [.int r15] _ _ _
        refine rx_p (L2 := [o0, some (.ref q1), some (.int a2), some (.int a3), some (.int a4), some (.int a5), some (.int a6), some (.int x3), some (.int x5), o9]) (S2 := [.int a4, .int r15]) (pc2 := 63) op161_61 rfl rfl ?_
        refine ry_ic_ne (tgt := 70) (pc2 := 66) op161_63 (by decide) (by decide) rfl (fun b17 => ?_) (fun b17 => ?_)
        · have gc34 := (if_pos b17).symm.trans gc34
          refine rx_ic (v := 1) (pc2 := 67) op161_66 (by decide) rfl ?_
          refine ry_go (tgt := 71) op161_67 (by decide) (by decide) ?_
          cases gc34
          exact c34 _ _ _ _
        · have gc34 := (if_neg b17).symm.trans gc34
          refine rx_ic (v := 0) (pc2 := 71) op161_70 (by decide) rfl ?_
          cases gc34
          exact c34 _ _ _ _
    · have h := (if_neg b1).symm.trans h
      cases h
      exact hr _ _ rfl _ _ _ _ _ _ _ _ _
set_option maxHeartbeats 4000000 in
set_option maxRecDepth 20000 in
theorem mo_winning_ok (xs : List Int32) {d : Nat} (hd : 1 ≤ d) {n : Nat} {q1 : Nat} {a2 : Int32} {a3 : Int32} {a4 : Int32} {m m9 : rn_Mem} {r9 : Int32} (hq1 : sA_arr q1) (h : mo_winning n q1 a2 a3 a4 m = some (r9, m9)) : rn_R xs d 161 0 (rn_ent 10 [.ref 115, .ref q1, .int a2, .int a3, .int a4]) [] (rn_SH, m) (some (.int r9)) (rn_SH, m9) := by
  obtain ⟨d, rfl⟩ : ∃ e, d = e + 1 := ⟨d - 1, by omega⟩
  unfold mo_winning at h
  show rn_R xs (d + 1) 161 0 [some (.ref 115), some (.ref q1), some (.int a2), some (.int a3), some (.int a4), none, none, none, none, none] [] (rn_SH, m) (some (.int r9)) (rn_SH, m9)
  refine rx_ic (v := 0) (pc2 := 1) op161_0 (by decide) rfl ?_
  refine rx_s (L2 := [some (.ref 115), some (.ref q1), some (.int a2), some (.int a3), some (.int a4), some (.int 0), none, none, none, none]) (pc2 := 3) op161_1 rfl rfl rfl ?_
  refine rx_ic (v := 1) (pc2 := 4) op161_3 (by decide) rfl ?_
  refine rx_s (L2 := [some (.ref 115), some (.ref q1), some (.int a2), some (.int a3), some (.int a4), some (.int 0), some (.int 1), none, none, none]) (pc2 := 6) op161_4 rfl rfl rfl ?_
  obtain ⟨wf46, f46, h⟩ := rq_bind h
  refine mo_winning_l6_ok xs hd (fun x41 m35 eq => ?_) _ _ _ _ _ _ _ _ hq1 f46
  subst eq
  try dsimp only at h
  intro o36 o37 o38 o39 o40 o42 o43 o44 o45
  refine rx_p (L2 := [o36, o37, o38, o39, o40, some (.int x41), o42, o43, o44, o45]) (S2 := [.int x41]) (pc2 := 95) op161_93 rfl rfl ?_
  cases h
  exact ry_ri op161_95 ms_161 rfl
theorem op146_0 : rn_op 146 0 = some (.iload_n 3, 1, 0, 0, 0) := by decide +kernel
theorem op146_1 : rn_op 146 1 = some (.i2l, 1, 0, 0, 0) := by decide +kernel
theorem op146_2 : rn_op 146 2 = some (.lconst 1, 1, 0, 0, 0) := by decide +kernel
theorem op146_3 : rn_op 146 3 = some (.ldc2_w 127, 3, 8, 0, 0) := by decide +kernel
theorem op146_6 : rn_op 146 6 = some (.invokestatic 121, 3, 147, 3, 0) := by decide +kernel
theorem op146_9 : rn_op 146 9 = some (.ifCond .ne 5, 3, 0, 0, 0) := by decide +kernel
theorem op146_12 : rn_op 146 12 = some (.iconst (-1), 1, 0, 0, 0) := by decide +kernel
theorem op146_13 : rn_op 146 13 = some (.ireturn, 1, 0, 0, 0) := by decide +kernel
theorem op146_14 : rn_op 146 14 = some (.iload_n 3, 1, 0, 0, 0) := by decide +kernel
theorem op146_15 : rn_op 146 15 = some (.iconst 1, 1, 0, 0, 0) := by decide +kernel
theorem op146_16 : rn_op 146 16 = some (.isub, 1, 0, 0, 0) := by decide +kernel
theorem op146_17 : rn_op 146 17 = some (.istore 4, 2, 0, 0, 0) := by decide +kernel
theorem op146_19 : rn_op 146 19 = some (.iload 4, 2, 0, 0, 0) := by decide +kernel
theorem op146_21 : rn_op 146 21 = some (.ifCond .lt 34, 3, 0, 0, 0) := by decide +kernel
theorem op146_24 : rn_op 146 24 = some (.lload_n 1, 1, 0, 0, 0) := by decide +kernel
theorem op146_25 : rn_op 146 25 = some (.bipush 8, 2, 0, 0, 0) := by decide +kernel
theorem op146_27 : rn_op 146 27 = some (.iload 4, 2, 0, 0, 0) := by decide +kernel
theorem op146_29 : rn_op 146 29 = some (.imul, 1, 0, 0, 0) := by decide +kernel
theorem op146_30 : rn_op 146 30 = some (.lshr, 1, 0, 0, 0) := by decide +kernel
theorem op146_31 : rn_op 146 31 = some (.ldc2_w 129, 3, 255, 0, 0) := by decide +kernel
theorem op146_34 : rn_op 146 34 = some (.land, 1, 0, 0, 0) := by decide +kernel
theorem op146_35 : rn_op 146 35 = some (.ldc2_w 131, 3, 32, 0, 0) := by decide +kernel
theorem op146_38 : rn_op 146 38 = some (.ldc2_w 133, 3, 126, 0, 0) := by decide +kernel
theorem op146_41 : rn_op 146 41 = some (.invokestatic 121, 3, 147, 3, 0) := by decide +kernel
theorem op146_44 : rn_op 146 44 = some (.ifCond .ne 5, 3, 0, 0, 0) := by decide +kernel
theorem op146_47 : rn_op 146 47 = some (.iconst (-1), 1, 0, 0, 0) := by decide +kernel
theorem op146_48 : rn_op 146 48 = some (.ireturn, 1, 0, 0, 0) := by decide +kernel
theorem op146_49 : rn_op 146 49 = some (.iinc 4 (-1), 3, 0, 0, 0) := by decide +kernel
theorem op146_52 : rn_op 146 52 = some (.goto (-33), 3, 0, 0, 0) := by decide +kernel
theorem op146_55 : rn_op 146 55 = some (.aload_n 0, 1, 0, 0, 0) := by decide +kernel
theorem op146_56 : rn_op 146 56 = some (.getfield 135, 3, 11, 2, 0) := by decide +kernel
theorem op146_59 : rn_op 146 59 = some (.iload_n 3, 1, 0, 0, 0) := by decide +kernel
theorem op146_60 : rn_op 146 60 = some (.iadd, 1, 0, 0, 0) := by decide +kernel
theorem op146_61 : rn_op 146 61 = some (.bipush 80, 2, 0, 0, 0) := by decide +kernel
theorem op146_63 : rn_op 146 63 = some (.if_icmp .le 6, 3, 0, 0, 0) := by decide +kernel
theorem op146_66 : rn_op 146 66 = some (.bipush (-3), 2, 0, 0, 0) := by decide +kernel
theorem op146_68 : rn_op 146 68 = some (.ireturn, 1, 0, 0, 0) := by decide +kernel
theorem op146_69 : rn_op 146 69 = some (.iload_n 3, 1, 0, 0, 0) := by decide +kernel
theorem op146_70 : rn_op 146 70 = some (.iconst 1, 1, 0, 0, 0) := by decide +kernel
theorem op146_71 : rn_op 146 71 = some (.isub, 1, 0, 0, 0) := by decide +kernel
theorem op146_72 : rn_op 146 72 = some (.istore 4, 2, 0, 0, 0) := by decide +kernel
theorem op146_74 : rn_op 146 74 = some (.iload 4, 2, 0, 0, 0) := by decide +kernel
theorem op146_76 : rn_op 146 76 = some (.ifCond .lt 40, 3, 0, 0, 0) := by decide +kernel
theorem op146_79 : rn_op 146 79 = some (.aload_n 0, 1, 0, 0, 0) := by decide +kernel
theorem op146_80 : rn_op 146 80 = some (.getfield 13, 3, 11, 1, 3) := by decide +kernel
theorem op146_83 : rn_op 146 83 = some (.aload_n 0, 1, 0, 0, 0) := by decide +kernel
theorem op146_84 : rn_op 146 84 = some (.getfield 135, 3, 11, 2, 0) := by decide +kernel
theorem op146_87 : rn_op 146 87 = some (.lload_n 1, 1, 0, 0, 0) := by decide +kernel
theorem op146_88 : rn_op 146 88 = some (.bipush 8, 2, 0, 0, 0) := by decide +kernel
theorem op146_90 : rn_op 146 90 = some (.iload 4, 2, 0, 0, 0) := by decide +kernel
theorem op146_92 : rn_op 146 92 = some (.imul, 1, 0, 0, 0) := by decide +kernel
theorem op146_93 : rn_op 146 93 = some (.lshr, 1, 0, 0, 0) := by decide +kernel
theorem op146_94 : rn_op 146 94 = some (.ldc2_w 129, 3, 255, 0, 0) := by decide +kernel
theorem op146_97 : rn_op 146 97 = some (.land, 1, 0, 0, 0) := by decide +kernel
theorem op146_98 : rn_op 146 98 = some (.l2i, 1, 0, 0, 0) := by decide +kernel
theorem op146_99 : rn_op 146 99 = some (.iastore, 1, 0, 0, 0) := by decide +kernel
theorem op146_100 : rn_op 146 100 = some (.aload_n 0, 1, 0, 0, 0) := by decide +kernel
theorem op146_101 : rn_op 146 101 = some (.dup, 1, 0, 0, 0) := by decide +kernel
theorem op146_102 : rn_op 146 102 = some (.getfield 135, 3, 11, 2, 0) := by decide +kernel
theorem op146_105 : rn_op 146 105 = some (.iconst 1, 1, 0, 0, 0) := by decide +kernel
theorem op146_106 : rn_op 146 106 = some (.iadd, 1, 0, 0, 0) := by decide +kernel
theorem op146_107 : rn_op 146 107 = some (.putfield 135, 3, 11, 2, 0) := by decide +kernel
theorem op146_110 : rn_op 146 110 = some (.iinc 4 (-1), 3, 0, 0, 0) := by decide +kernel
theorem op146_113 : rn_op 146 113 = some (.goto (-39), 3, 0, 0, 0) := by decide +kernel
theorem op146_116 : rn_op 146 116 = some (.aload_n 0, 1, 0, 0, 0) := by decide +kernel
theorem op146_117 : rn_op 146 117 = some (.getfield 135, 3, 11, 2, 0) := by decide +kernel
theorem op146_120 : rn_op 146 120 = some (.ireturn, 1, 0, 0, 0) := by decide +kernel
def mo_type_l19 (a1 : Int64) (a3 : Int32) : Nat → Int32 → rn_Mem → Option ((Int32 × rn_Mem) ⊕ (rn_Mem))
  | 0, _, _ => none
  | n + 1, a4, m =>
    if a4 < 0 then
      some (.inr m)
    else
      (mo_in n ((a1 >>> ((8 * a4).toInt64 &&& 63)) &&& 255) 32 126 m).bind fun (r8, m7) =>
      if r8 = 0 then
        some (.inl ((-1), m7))
      else
        (some (a4 + (-1))).bind fun (x11 : Int32) =>
        mo_type_l19 a1 a3 n x11 m7
def mo_type_l74 (a1 : Int64) : Nat → Int32 → rn_Mem → Option (rn_Mem)
  | 0, _, _ => none
  | n + 1, a4, m =>
    if a4 < 0 then
      some m
    else
      if rn_in (m.1 115 2) 80 = true then
        (some (rm_i m 117 (m.1 115 2).toNatClampNeg (((a1 >>> ((8 * a4).toInt64 &&& 63)) &&& 255).toInt32))).bind fun (m18 : rn_Mem) =>
        (some (rm_i m18 115 2 ((m18.1 115 2) + 1))).bind fun (m20 : rn_Mem) =>
        (some (a4 + (-1))).bind fun (x21 : Int32) =>
        mo_type_l74 a1 n x21 m20
      else none
def mo_type (n : Nat) (a1 : Int64) (a2 : Int32) (m : rn_Mem) : Option (Int32 × rn_Mem) :=
  (mo_in n (a2.toInt64) 1 8 m).bind fun (r2, m1) =>
  if r2 = 0 then
    some ((-1), m1)
  else
    (some (a2 - 1)).bind fun (x5 : Int32) =>
    (mo_type_l19 a1 a2 n x5 m1).bind fun q => match q with
    | .inl o => some o
    | .inr m12 =>
    if 80 < ((m12.1 115 2) + a2) then
      some ((-3), m12)
    else
      (some (a2 - 1)).bind fun (x16 : Int32) =>
      (mo_type_l74 a1 n x16 m12).bind fun m23 =>
      some (m23.1 115 2, m23)
set_option maxHeartbeats 4000000 in
set_option maxRecDepth 20000 in
theorem mo_type_l19_ok (xs : List Int32) {d : Nat} (hd : 1 ≤ d + 1) {a1 : Int64} {a3 : Int32} {r : Option Value} {τ : rn_H} {out : (Int32 × rn_Mem) ⊕ (rn_Mem)} (hl : ∀ (r9 : Int32) (m9 : rn_Mem), out = .inl (r9, m9) → r = (some (.int r9)) ∧ τ = (rn_SH, m9)) (hr : ∀ (m9 : rn_Mem), out = .inr m9 → ∀ (o2 o4 : Option Value), rn_R xs (d + 1) 146 55 [some (.ref 115), some (.long a1), o2, some (.int a3), o4] [] (rn_SH, m9) r τ) : ∀ (n : Nat) (a4 : Int32) (o2 : Option Value) (m : rn_Mem), mo_type_l19 a1 a3 n a4 m = some out → rn_R xs (d + 1) 146 19 [some (.ref 115), some (.long a1), o2, some (.int a3), some (.int a4)] [] (rn_SH, m) r τ := by
  intro n
  induction n with
  | zero =>
    intro _ _ _ h
    cases h
  | succ n ih =>
    intro a4 o2 m h
    unfold mo_type_l19 at h
    try dsimp only at h
    refine rx_p (L2 := [some (.ref 115), some (.long a1), o2, some (.int a3), some (.int a4)]) (S2 := [.int a4]) (pc2 := 21) op146_19 rfl rfl ?_
    refine ry_if_lt (tgt := 55) (pc2 := 24) op146_21 (by decide) (by decide) rfl (fun b6 => ?_) (fun b6 => ?_)
    · have h := (if_pos b6).symm.trans h
      cases h
      exact hr _ rfl _ _
    · have h := (if_neg b6).symm.trans h
      refine rx_p (L2 := [some (.ref 115), some (.long a1), o2, some (.int a3), some (.int a4)]) (S2 := [.long a1]) (pc2 := 25) op146_24 rfl rfl ?_
      refine rx_bp (v := 8) (pc2 := 27) op146_25 (by decide) rfl ?_
      refine rx_p (L2 := [some (.ref 115), some (.long a1), o2, some (.int a3), some (.int a4)]) (S2 := [.int a4, .int 8, .long a1]) (pc2 := 29) op146_27 rfl rfl ?_
      refine rx_p (L2 := [some (.ref 115), some (.long a1), o2, some (.int a3), some (.int a4)]) (S2 := [.int (8 * a4), .long a1]) (pc2 := 30) op146_29 rfl rfl ?_
      refine rx_p (L2 := [some (.ref 115), some (.long a1), o2, some (.int a3), some (.int a4)]) (S2 := [.long (a1 >>> ((8 * a4).toInt64 &&& 63))]) (pc2 := 31) op146_30 rfl rfl ?_
      refine rx_ld2 (v := 255) (pc2 := 34) op146_31 (by decide) rfl ?_
      refine rx_p (L2 := [some (.ref 115), some (.long a1), o2, some (.int a3), some (.int a4)]) (S2 := [.long ((a1 >>> ((8 * a4).toInt64 &&& 63)) &&& 255)]) (pc2 := 35) op146_34 rfl rfl ?_
      refine rx_ld2 (v := 32) (pc2 := 38) op146_35 (by decide) rfl ?_
      refine rx_ld2 (v := 126) (pc2 := 41) op146_38 (by decide) rfl ?_
      obtain ⟨⟨r8, m7⟩, f9, h⟩ := rq_bind h
      try dsimp only at h
      refine ry_is (vs := [.long ((a1 >>> ((8 * a4).toInt64 &&& 63)) &&& 255), .long 32, .long 126]) (T := []) (pc2 := 44) op146_41 (by decide) ms_147 (by decide) rfl rfl (Nat.le_of_ble_eq_true rfl) (Nat.le_of_ble_eq_true rfl) (mo_in_ok xs (by omega)  f9) rfl ?_
      show rn_R _ _ _ _ _ [.int r8] _ _ _
      refine ry_if_ne (tgt := 49) (pc2 := 47) op146_44 (by decide) (by decide) rfl (fun b10 => ?_) (fun b10 => ?_)
      · have h := (if_pos b10).symm.trans h
        refine rx_ic (v := (-1)) (pc2 := 48) op146_47 (by decide) rfl ?_
        cases h
        obtain ⟨rfl, rfl⟩ := hl _ _ rfl
        exact ry_ri op146_48 ms_146 rfl
      · have h := (if_neg b10).symm.trans h
        obtain ⟨x11, ex11, h⟩ := rq_bv h
        refine rx_inc (w := (-1)) (v := x11) (L2 := [some (.ref 115), some (.long a1), o2, some (.int a3), some (.int x11)]) (pc2 := 52) op146_49 rfl (by decide) ex11 rfl rfl ?_
        refine ry_go (tgt := 19) op146_52 (by decide) (by decide) ?_
        exact ih _ _ _ h
set_option maxHeartbeats 4000000 in
set_option maxRecDepth 20000 in
theorem mo_type_l74_ok (xs : List Int32) {d : Nat} (hd : 1 ≤ d + 1) {a1 : Int64} {r : Option Value} {τ : rn_H} {out : rn_Mem} (hr : ∀ (m9 : rn_Mem), out = m9 → ∀ (o1 o2 o3 o4 : Option Value), rn_R xs (d + 1) 146 116 [some (.ref 115), o1, o2, o3, o4] [] (rn_SH, m9) r τ) : ∀ (n : Nat) (a4 : Int32) (o2 o3 : Option Value) (m : rn_Mem), mo_type_l74 a1 n a4 m = some out → rn_R xs (d + 1) 146 74 [some (.ref 115), some (.long a1), o2, o3, some (.int a4)] [] (rn_SH, m) r τ := by
  intro n
  induction n with
  | zero =>
    intro _ _ _ _ h
    cases h
  | succ n ih =>
    intro a4 o2 o3 m h
    unfold mo_type_l74 at h
    try dsimp only at h
    refine rx_p (L2 := [some (.ref 115), some (.long a1), o2, o3, some (.int a4)]) (S2 := [.int a4]) (pc2 := 76) op146_74 rfl rfl ?_
    refine ry_if_lt (tgt := 116) (pc2 := 79) op146_76 (by decide) (by decide) rfl (fun b17 => ?_) (fun b17 => ?_)
    · have h := (if_pos b17).symm.trans h
      cases h
      exact hr _ rfl _ _ _ _
    · have h := (if_neg b17).symm.trans h
      refine rx_p (L2 := [some (.ref 115), some (.long a1), o2, o3, some (.int a4)]) (S2 := [.ref 115]) (pc2 := 80) op146_79 rfl rfl ?_
      refine rx_gf (v := .ref 117) (pc2 := 83) op146_80 sp_115 rfl rfl rfl ?_
      refine rx_p (L2 := [some (.ref 115), some (.long a1), o2, o3, some (.int a4)]) (S2 := [.ref 115, .ref 117]) (pc2 := 84) op146_83 rfl rfl ?_
      refine rx_gf (v := .int (m.1 115 2)) (pc2 := 87) op146_84 sp_115 rfl rfl rfl ?_
      refine rx_p (L2 := [some (.ref 115), some (.long a1), o2, o3, some (.int a4)]) (S2 := [.long a1, .int (m.1 115 2), .ref 117]) (pc2 := 88) op146_87 rfl rfl ?_
      refine rx_bp (v := 8) (pc2 := 90) op146_88 (by decide) rfl ?_
      refine rx_p (L2 := [some (.ref 115), some (.long a1), o2, o3, some (.int a4)]) (S2 := [.int a4, .int 8, .long a1, .int (m.1 115 2), .ref 117]) (pc2 := 92) op146_90 rfl rfl ?_
      refine rx_p (L2 := [some (.ref 115), some (.long a1), o2, o3, some (.int a4)]) (S2 := [.int (8 * a4), .long a1, .int (m.1 115 2), .ref 117]) (pc2 := 93) op146_92 rfl rfl ?_
      refine rx_p (L2 := [some (.ref 115), some (.long a1), o2, o3, some (.int a4)]) (S2 := [.long (a1 >>> ((8 * a4).toInt64 &&& 63)), .int (m.1 115 2), .ref 117]) (pc2 := 94) op146_93 rfl rfl ?_
      refine rx_ld2 (v := 255) (pc2 := 97) op146_94 (by decide) rfl ?_
      refine rx_p (L2 := [some (.ref 115), some (.long a1), o2, o3, some (.int a4)]) (S2 := [.long ((a1 >>> ((8 * a4).toInt64 &&& 63)) &&& 255), .int (m.1 115 2), .ref 117]) (pc2 := 98) op146_97 rfl rfl ?_
      refine rx_p (L2 := [some (.ref 115), some (.long a1), o2, o3, some (.int a4)]) (S2 := [.int (((a1 >>> ((8 * a4).toInt64 &&& 63)) &&& 255).toInt32), .int (m.1 115 2), .ref 117]) (pc2 := 99) op146_98 rfl rfl ?_
      obtain ⟨k19, h⟩ := rq_chk h
      obtain ⟨m18, em18, h⟩ := rq_bv h
      refine rx_is (m2 := m18) (pc2 := 100) op146_99 sp_117 k19 rfl em18 rfl ?_
      refine rx_p (L2 := [some (.ref 115), some (.long a1), o2, o3, some (.int a4)]) (S2 := [.ref 115]) (pc2 := 101) op146_100 rfl rfl ?_
      refine rx_p (L2 := [some (.ref 115), some (.long a1), o2, o3, some (.int a4)]) (S2 := [.ref 115, .ref 115]) (pc2 := 102) op146_101 rfl rfl ?_
      refine rx_gf (v := .int (m18.1 115 2)) (pc2 := 105) op146_102 sp_115 rfl rfl rfl ?_
      refine rx_ic (v := 1) (pc2 := 106) op146_105 (by decide) rfl ?_
      refine rx_p (L2 := [some (.ref 115), some (.long a1), o2, o3, some (.int a4)]) (S2 := [.int ((m18.1 115 2) + 1), .ref 115]) (pc2 := 107) op146_106 rfl rfl ?_
      obtain ⟨m20, em20, h⟩ := rq_bv h
      refine rx_pf (m2 := m20) (pc2 := 110) op146_107 sp_115 rfl em20 rfl ?_
      obtain ⟨x21, ex21, h⟩ := rq_bv h
      refine rx_incd (w := (-1)) (v := x21) (j := 3) (pc2 := 113) op146_110 rfl (by decide) ex21 rfl (fun o22 => ?_)
      show rn_R _ _ _ _ [some (.ref 115), some (.long a1), o2, o22, some (.int x21)] _ _ _ _
      refine ry_go (tgt := 74) op146_113 (by decide) (by decide) ?_
      exact ih _ _ _ _ h
set_option maxHeartbeats 4000000 in
set_option maxRecDepth 20000 in
theorem mo_type_ok (xs : List Int32) {d : Nat} (hd : 1 ≤ d) {n : Nat} {a1 : Int64} {a2 : Int32} {m m9 : rn_Mem} {r9 : Int32} (h : mo_type n a1 a2 m = some (r9, m9)) : rn_R xs d 146 0 (rn_ent 5 [.ref 115, .long a1, .int a2]) [] (rn_SH, m) (some (.int r9)) (rn_SH, m9) := by
  obtain ⟨d, rfl⟩ : ∃ e, d = e + 1 := ⟨d - 1, by omega⟩
  unfold mo_type at h
  show rn_R xs (d + 1) 146 0 [some (.ref 115), some (.long a1), none, some (.int a2), none] [] (rn_SH, m) (some (.int r9)) (rn_SH, m9)
  refine rx_p (L2 := [some (.ref 115), some (.long a1), none, some (.int a2), none]) (S2 := [.int a2]) (pc2 := 1) op146_0 rfl rfl ?_
  refine rx_p (L2 := [some (.ref 115), some (.long a1), none, some (.int a2), none]) (S2 := [.long (a2.toInt64)]) (pc2 := 2) op146_1 rfl rfl ?_
  refine rx_lc (v := 1) (pc2 := 3) op146_2 (by decide) rfl ?_
  refine rx_ld2 (v := 8) (pc2 := 6) op146_3 (by decide) rfl ?_
  obtain ⟨⟨r2, m1⟩, f3, h⟩ := rq_bind h
  try dsimp only at h
  refine ry_is (vs := [.long (a2.toInt64), .long 1, .long 8]) (T := []) (pc2 := 9) op146_6 (by decide) ms_147 (by decide) rfl rfl (Nat.le_of_ble_eq_true rfl) (Nat.le_of_ble_eq_true rfl) (mo_in_ok xs (by omega)  f3) rfl ?_
  show rn_R _ _ _ _ _ [.int r2] _ _ _
  refine ry_if_ne (tgt := 14) (pc2 := 12) op146_9 (by decide) (by decide) rfl (fun b4 => ?_) (fun b4 => ?_)
  · have h := (if_pos b4).symm.trans h
    refine rx_ic (v := (-1)) (pc2 := 13) op146_12 (by decide) rfl ?_
    cases h
    exact ry_ri op146_13 ms_146 rfl
  · have h := (if_neg b4).symm.trans h
    refine rx_p (L2 := [some (.ref 115), some (.long a1), none, some (.int a2), none]) (S2 := [.int a2]) (pc2 := 15) op146_14 rfl rfl ?_
    refine rx_ic (v := 1) (pc2 := 16) op146_15 (by decide) rfl ?_
    refine rx_p (L2 := [some (.ref 115), some (.long a1), none, some (.int a2), none]) (S2 := [.int (a2 - 1)]) (pc2 := 17) op146_16 rfl rfl ?_
    obtain ⟨x5, ex5, h⟩ := rq_bv h
    refine rx_s (v := x5) (L2 := [some (.ref 115), some (.long a1), none, some (.int a2), some (.int x5)]) (pc2 := 19) op146_17 ex5 rfl rfl ?_
    obtain ⟨wf29, f29, h⟩ := rq_bind h
    refine mo_type_l19_ok xs hd (fun v0 m0 eq => ?_) (fun m12 eq => ?_) _ _ _ _  f29
    · subst eq
      try dsimp only at h
      cases h
      exact ⟨rfl, rfl⟩
    · subst eq
      try dsimp only at h
      intro o13 o14
      refine rx_p (L2 := [some (.ref 115), some (.long a1), o13, some (.int a2), o14]) (S2 := [.ref 115]) (pc2 := 56) op146_55 rfl rfl ?_
      refine rx_gf (v := .int (m12.1 115 2)) (pc2 := 59) op146_56 sp_115 rfl rfl rfl ?_
      refine rx_p (L2 := [some (.ref 115), some (.long a1), o13, some (.int a2), o14]) (S2 := [.int a2, .int (m12.1 115 2)]) (pc2 := 60) op146_59 rfl rfl ?_
      refine rx_p (L2 := [some (.ref 115), some (.long a1), o13, some (.int a2), o14]) (S2 := [.int ((m12.1 115 2) + a2)]) (pc2 := 61) op146_60 rfl rfl ?_
      refine rx_bp (v := 80) (pc2 := 63) op146_61 (by decide) rfl ?_
      refine ry_ic_le (tgt := 69) (pc2 := 66) op146_63 (by decide) (by decide) rfl (fun b15 => ?_) (fun b15 => ?_)
      · have h := (if_pos b15).symm.trans h
        refine rx_bp (v := (-3)) (pc2 := 68) op146_66 (by decide) rfl ?_
        cases h
        exact ry_ri op146_68 ms_146 rfl
      · have h := (if_neg b15).symm.trans h
        refine rx_p (L2 := [some (.ref 115), some (.long a1), o13, some (.int a2), o14]) (S2 := [.int a2]) (pc2 := 70) op146_69 rfl rfl ?_
        refine rx_ic (v := 1) (pc2 := 71) op146_70 (by decide) rfl ?_
        refine rx_p (L2 := [some (.ref 115), some (.long a1), o13, some (.int a2), o14]) (S2 := [.int (a2 - 1)]) (pc2 := 72) op146_71 rfl rfl ?_
        obtain ⟨x16, ex16, h⟩ := rq_bv h
        refine rx_s (v := x16) (L2 := [some (.ref 115), some (.long a1), o13, some (.int a2), some (.int x16)]) (pc2 := 74) op146_72 ex16 rfl rfl ?_
        obtain ⟨m23, f28, h⟩ := rq_bind h
        refine mo_type_l74_ok xs hd (fun m0 eq => ?_) _ _ _ _ _  f28
        subst eq
        try dsimp only at h
        intro o24 o25 o26 o27
        refine rx_p (L2 := [some (.ref 115), o24, o25, o26, o27]) (S2 := [.ref 115]) (pc2 := 117) op146_116 rfl rfl ?_
        refine rx_gf (v := .int (m23.1 115 2)) (pc2 := 120) op146_117 sp_115 rfl rfl rfl ?_
        cases h
        exact ry_ri op146_120 ms_146 rfl
