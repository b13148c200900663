/-! tp_typable -/
theorem op13_0 : rn_op 13 0 = some (.iconst 0, 1, 0, 0, 0) := by decide +kernel
theorem op13_1 : rn_op 13 1 = some (.istore_n 3, 1, 0, 0, 0) := by decide +kernel
theorem op13_2 : rn_op 13 2 = some (.iload_n 3, 1, 0, 0, 0) := by decide +kernel
theorem op13_3 : rn_op 13 3 = some (.iload_n 2, 1, 0, 0, 0) := by decide +kernel
theorem op13_4 : rn_op 13 4 = some (.if_icmp .ge 38, 3, 0, 0, 0) := by decide +kernel
theorem op13_7 : rn_op 13 7 = some (.lload_n 0, 1, 0, 0, 0) := by decide +kernel
theorem op13_8 : rn_op 13 8 = some (.bipush 8, 2, 0, 0, 0) := by decide +kernel
theorem op13_10 : rn_op 13 10 = some (.iload_n 3, 1, 0, 0, 0) := by decide +kernel
theorem op13_11 : rn_op 13 11 = some (.imul, 1, 0, 0, 0) := by decide +kernel
theorem op13_12 : rn_op 13 12 = some (.lshr, 1, 0, 0, 0) := by decide +kernel
theorem op13_13 : rn_op 13 13 = some (.l2i, 1, 0, 0, 0) := by decide +kernel
theorem op13_14 : rn_op 13 14 = some (.sipush 255, 3, 0, 0, 0) := by decide +kernel
theorem op13_17 : rn_op 13 17 = some (.iand, 1, 0, 0, 0) := by decide +kernel
theorem op13_18 : rn_op 13 18 = some (.istore 4, 2, 0, 0, 0) := by decide +kernel
theorem op13_20 : rn_op 13 20 = some (.iload 4, 2, 0, 0, 0) := by decide +kernel
theorem op13_22 : rn_op 13 22 = some (.bipush 32, 2, 0, 0, 0) := by decide +kernel
theorem op13_24 : rn_op 13 24 = some (.if_icmp .lt 10, 3, 0, 0, 0) := by decide +kernel
theorem op13_27 : rn_op 13 27 = some (.iload 4, 2, 0, 0, 0) := by decide +kernel
theorem op13_29 : rn_op 13 29 = some (.bipush 126, 2, 0, 0, 0) := by decide +kernel
theorem op13_31 : rn_op 13 31 = some (.if_icmp .le 5, 3, 0, 0, 0) := by decide +kernel
theorem op13_34 : rn_op 13 34 = some (.iconst 0, 1, 0, 0, 0) := by decide +kernel
theorem op13_35 : rn_op 13 35 = some (.ireturn, 1, 0, 0, 0) := by decide +kernel
theorem op13_36 : rn_op 13 36 = some (.iinc 3 1, 3, 0, 0, 0) := by decide +kernel
theorem op13_39 : rn_op 13 39 = some (.goto (-37), 3, 0, 0, 0) := by decide +kernel
theorem op13_42 : rn_op 13 42 = some (.iconst 1, 1, 0, 0, 0) := by decide +kernel
theorem op13_43 : rn_op 13 43 = some (.ireturn, 1, 0, 0, 0) := by decide +kernel
def tp_typable_l2 (a0 : Int64) (a2 : Int32) : Nat → Int32 → rn_Mem → Option ((Int32 × rn_Mem) ⊕ (rn_Mem))
  | 0, _, _ => none
  | n + 1, a3, m =>
    if a3 < a2 then
      (some (((a0 >>> (((8 : Int32) * a3).toInt64 &&& 63)).toInt32) &&& 255)).bind fun (x2 : Int32) =>
      if x2 < 32 then
        some (.inl (0, m))
      else
        if 126 < x2 then
          some (.inl (0, m))
        else
          (some (a3 + 1)).bind fun (x5 : Int32) =>
          tp_typable_l2 a0 a2 n x5 m
    else
      some (.inr m)
def tp_typable (n : Nat) (a0 : Int64) (a1 : Int32) (m : rn_Mem) : Option (Int32 × rn_Mem) :=
  (tp_typable_l2 a0 a1 n 0 m).bind fun q => match q with
  | .inl o => some o
  | .inr m6 =>
  some (1, m6)
set_option maxHeartbeats 4000000 in
set_option maxRecDepth 20000 in
theorem tp_typable_l2_ok (xs : List Int32) {d : Nat} {a0 : Int64} {a2 : Int32} {r : Option Value} {τ : rn_H} {out : (Int32 × rn_Mem) ⊕ (rn_Mem)} (hl : ∀ (rO : Int32) (mO : rn_Mem), out = .inl (rO, mO) → r = (some (.int rO)) ∧ τ = (rn_SH, mO)) (hr : ∀ (mO : rn_Mem), out = .inr mO → ∀ (o0 o1 o2 o3 o4 : Option Value), rn_R xs d 13 42 [o0, o1, o2, o3, o4] [] (rn_SH, mO) r τ) : ∀ (n : Nat) (a3 : Int32) (o1 o4 : Option Value) (m : rn_Mem), tp_typable_l2 a0 a2 n a3 m = some out → rn_R xs d 13 2 [some (.long a0), o1, some (.int a2), some (.int a3), o4] [] (rn_SH, m) r τ := by
  intro n
  induction n with
  | zero =>
    intro _ _ _ _ h
    cases h
  | succ n ih =>
    intro a3 o1 o4 m h
    unfold tp_typable_l2 at h
    try dsimp only at h
    refine rx_p (L2 := [some (.long a0), o1, some (.int a2), some (.int a3), o4]) (S2 := [.int a3]) (pc2 := 3) op13_2 rfl rfl ?_
    refine rx_p (L2 := [some (.long a0), o1, some (.int a2), some (.int a3), o4]) (S2 := [.int a2, .int a3]) (pc2 := 4) op13_3 rfl rfl ?_
    refine ry_ic_ge (tgt := 42) (pc2 := 7) op13_4 (by decide) (by decide) rfl (fun b1 => ?_) (fun b1 => ?_)
    · have h := (if_pos b1).symm.trans h
      refine rx_p (L2 := [some (.long a0), o1, some (.int a2), some (.int a3), o4]) (S2 := [.long a0]) (pc2 := 8) op13_7 rfl rfl ?_
      refine rx_bp (v := 8) (pc2 := 10) op13_8 (by decide) rfl ?_
      refine rx_p (L2 := [some (.long a0), o1, some (.int a2), some (.int a3), o4]) (S2 := [.int a3, .int 8, .long a0]) (pc2 := 11) op13_10 rfl rfl ?_
      refine rx_p (L2 := [some (.long a0), o1, some (.int a2), some (.int a3), o4]) (S2 := [.int ((8 : Int32) * a3), .long a0]) (pc2 := 12) op13_11 rfl rfl ?_
      refine rx_p (L2 := [some (.long a0), o1, some (.int a2), some (.int a3), o4]) (S2 := [.long (a0 >>> (((8 : Int32) * a3).toInt64 &&& 63))]) (pc2 := 13) op13_12 rfl rfl ?_
      refine rx_p (L2 := [some (.long a0), o1, some (.int a2), some (.int a3), o4]) (S2 := [.int ((a0 >>> (((8 : Int32) * a3).toInt64 &&& 63)).toInt32)]) (pc2 := 14) op13_13 rfl rfl ?_
      refine rx_sp (v := 255) (pc2 := 17) op13_14 (by decide) rfl ?_
      refine rx_p (L2 := [some (.long a0), o1, some (.int a2), some (.int a3), o4]) (S2 := [.int (((a0 >>> (((8 : Int32) * a3).toInt64 &&& 63)).toInt32) &&& 255)]) (pc2 := 18) op13_17 rfl rfl ?_
      obtain ⟨x2, ex2, h⟩ := rq_bv h
      refine rx_s (v := x2) (L2 := [some (.long a0), o1, some (.int a2), some (.int a3), some (.int x2)]) (pc2 := 20) op13_18 ex2 rfl rfl ?_
      refine rx_p (L2 := [some (.long a0), o1, some (.int a2), some (.int a3), some (.int x2)]) (S2 := [.int x2]) (pc2 := 22) op13_20 rfl rfl ?_
      refine rx_bp (v := 32) (pc2 := 24) op13_22 (by decide) rfl ?_
      refine ry_ic_lt (tgt := 34) (pc2 := 27) op13_24 (by decide) (by decide) rfl (fun b3 => ?_) (fun b3 => ?_)
      · have h := (if_pos b3).symm.trans h
        refine rx_ic (v := 0) (pc2 := 35) op13_34 (by decide) rfl ?_
        cases h
        obtain ⟨rfl, rfl⟩ := hl _ _ rfl
        exact ry_rz (x := 0) op13_35 ms_13 rfl (by decide)
      · have h := (if_neg b3).symm.trans h
        refine rx_p (L2 := [some (.long a0), o1, some (.int a2), some (.int a3), some (.int x2)]) (S2 := [.int x2]) (pc2 := 29) op13_27 rfl rfl ?_
        refine rx_bp (v := 126) (pc2 := 31) op13_29 (by decide) rfl ?_
        refine ry_ic_le (tgt := 36) (pc2 := 34) op13_31 (by decide) (by decide) rfl (fun b4 => ?_) (fun b4 => ?_)
        · have h := (if_pos b4).symm.trans h
          refine rx_ic (v := 0) (pc2 := 35) op13_34 (by decide) rfl ?_
          cases h
          obtain ⟨rfl, rfl⟩ := hl _ _ rfl
          exact ry_rz (x := 0) op13_35 ms_13 rfl (by decide)
        · have h := (if_neg b4).symm.trans h
          obtain ⟨x5, ex5, h⟩ := rq_bv h
          refine rx_inc (w := 1) (v := x5) (L2 := [some (.long a0), o1, some (.int a2), some (.int x5), some (.int x2)]) (pc2 := 39) op13_36 rfl (by decide) ex5 rfl rfl ?_
          refine ry_go (tgt := 2) op13_39 (by decide) (by decide) ?_
          exact ih _ _ _ _ h
    · have h := (if_neg b1).symm.trans h
      cases h
      exact hr _ rfl _ _ _ _ _
set_option maxHeartbeats 4000000 in
set_option maxRecDepth 20000 in
theorem tp_typable_ok (xs : List Int32) {d : Nat} (hd : 0 ≤ d) {n : Nat} {a0 : Int64} {a1 : Int32} {m mO : rn_Mem} {rO : Int32} (h : tp_typable n a0 a1 m = some (rO, mO)) : rn_R xs d 13 0 (rn_ent 5 [.long a0, .int a1]) [] (rn_SH, m) (some (.int rO)) (rn_SH, mO) := by
  unfold tp_typable at h
  show rn_R xs d 13 0 [some (.long a0), none, some (.int a1), none, none] [] (rn_SH, m) (some (.int rO)) (rn_SH, mO)
  refine rx_ic (v := 0) (pc2 := 1) op13_0 (by decide) rfl ?_
  refine rx_s (L2 := [some (.long a0), none, some (.int a1), some (.int 0), none]) (pc2 := 2) op13_1 rfl rfl rfl ?_
  obtain ⟨wf12, f12, h⟩ := rq_bind h
  refine tp_typable_l2_ok xs (fun v0 m0 eq => ?_) (fun m6 eq => ?_) _ _ _ _ _  f12
  · subst eq
    try dsimp only at h
    cases h
    exact ⟨rfl, rfl⟩
  · subst eq
    try dsimp only at h
    intro o7 o8 o9 o10 o11
    refine rx_ic (v := 1) (pc2 := 43) op13_42 (by decide) rfl ?_
    obtain ⟨rfl, rfl⟩ := rq_ret h
    exact ry_rz (x := 1) op13_43 ms_13 rfl (by decide)
/-! tp_append -/
theorem op14_0 : rn_op 14 0 = some (.iload_n 3, 1, 0, 0, 0) := by decide +kernel
theorem op14_1 : rn_op 14 1 = some (.iconst 1, 1, 0, 0, 0) := by decide +kernel
theorem op14_2 : rn_op 14 2 = some (.isub, 1, 0, 0, 0) := by decide +kernel
theorem op14_3 : rn_op 14 3 = some (.istore 4, 2, 0, 0, 0) := by decide +kernel
theorem op14_5 : rn_op 14 5 = some (.iload 4, 2, 0, 0, 0) := by decide +kernel
theorem op14_7 : rn_op 14 7 = some (.ifCond .lt 46, 3, 0, 0, 0) := by decide +kernel
theorem op14_10 : rn_op 14 10 = some (.aload_n 0, 1, 0, 0, 0) := by decide +kernel
theorem op14_11 : rn_op 14 11 = some (.getfield 15, 3, 8, 1, 0) := by decide +kernel
theorem op14_14 : rn_op 14 14 = some (.bipush 80, 2, 0, 0, 0) := by decide +kernel
theorem op14_16 : rn_op 14 16 = some (.if_icmp .ge 37, 3, 0, 0, 0) := by decide +kernel
theorem op14_19 : rn_op 14 19 = some (.aload_n 0, 1, 0, 0, 0) := by decide +kernel
theorem op14_20 : rn_op 14 20 = some (.getfield 9, 3, 8, 0, 3) := by decide +kernel
theorem op14_23 : rn_op 14 23 = some (.aload_n 0, 1, 0, 0, 0) := by decide +kernel
theorem op14_24 : rn_op 14 24 = some (.getfield 15, 3, 8, 1, 0) := by decide +kernel
theorem op14_27 : rn_op 14 27 = some (.lload_n 1, 1, 0, 0, 0) := by decide +kernel
theorem op14_28 : rn_op 14 28 = some (.bipush 8, 2, 0, 0, 0) := by decide +kernel
theorem op14_30 : rn_op 14 30 = some (.iload 4, 2, 0, 0, 0) := by decide +kernel
theorem op14_32 : rn_op 14 32 = some (.imul, 1, 0, 0, 0) := by decide +kernel
theorem op14_33 : rn_op 14 33 = some (.lshr, 1, 0, 0, 0) := by decide +kernel
theorem op14_34 : rn_op 14 34 = some (.l2i, 1, 0, 0, 0) := by decide +kernel
theorem op14_35 : rn_op 14 35 = some (.i2b, 1, 0, 0, 0) := by decide +kernel
theorem op14_36 : rn_op 14 36 = some (.bastore, 1, 0, 0, 0) := by decide +kernel
theorem op14_37 : rn_op 14 37 = some (.aload_n 0, 1, 0, 0, 0) := by decide +kernel
theorem op14_38 : rn_op 14 38 = some (.dup, 1, 0, 0, 0) := by decide +kernel
theorem op14_39 : rn_op 14 39 = some (.getfield 15, 3, 8, 1, 0) := by decide +kernel
theorem op14_42 : rn_op 14 42 = some (.iconst 1, 1, 0, 0, 0) := by decide +kernel
theorem op14_43 : rn_op 14 43 = some (.iadd, 1, 0, 0, 0) := by decide +kernel
theorem op14_44 : rn_op 14 44 = some (.putfield 15, 3, 8, 1, 0) := by decide +kernel
theorem op14_47 : rn_op 14 47 = some (.iinc 4 (-1), 3, 0, 0, 0) := by decide +kernel
theorem op14_50 : rn_op 14 50 = some (.goto (-45), 3, 0, 0, 0) := by decide +kernel
theorem op14_53 : rn_op 14 53 = some (.return_, 1, 0, 0, 0) := by decide +kernel
def tp_append_l5 (a1 : Int64) : Nat → Int32 → rn_Mem → Option (rn_Mem)
  | 0, _, _ => none
  | n + 1, a4, m =>
    if a4 < 0 then
      some m
    else
      if (m.1 1 1) < 80 then
        if rn_in (m.1 1 1) 80 = true then
          (some (rm_i m 2 (m.1 1 1).toNatClampNeg (vp_nar .byte (((a1 >>> (((8 : Int32) * a4).toInt64 &&& 63)).toInt32).toInt8.toInt32)))).bind fun (m4 : rn_Mem) =>
          (some (rm_i m4 1 1 ((m4.1 1 1) + 1))).bind fun (m6 : rn_Mem) =>
          (some (a4 + (-1))).bind fun (x7 : Int32) =>
          tp_append_l5 a1 n x7 m6
        else none
      else
        some m
def tp_append (n : Nat) (a1 : Int64) (a2 : Int32) (m : rn_Mem) : Option (rn_Mem) :=
  (some (a2 - 1)).bind fun (x1 : Int32) =>
  (tp_append_l5 a1 n x1 m).bind fun m9 =>
  some m9
set_option maxHeartbeats 4000000 in
set_option maxRecDepth 20000 in
theorem tp_append_l5_ok (xs : List Int32) {d : Nat} {a1 : Int64} {r : Option Value} {τ : rn_H} {out : rn_Mem} (hr : ∀ (mO : rn_Mem), out = mO → ∀ (o0 o1 o2 o3 o4 : Option Value), rn_R xs d 14 53 [o0, o1, o2, o3, o4] [] (rn_SH, mO) r τ) : ∀ (n : Nat) (a4 : Int32) (o2 o3 : Option Value) (m : rn_Mem), tp_append_l5 a1 n a4 m = some out → rn_R xs d 14 5 [some (.ref 1), some (.long a1), o2, o3, some (.int a4)] [] (rn_SH, m) r τ := by
  intro n
  induction n with
  | zero =>
    intro _ _ _ _ h
    cases h
  | succ n ih =>
    intro a4 o2 o3 m h
    unfold tp_append_l5 at h
    try dsimp only at h
    refine rx_p (L2 := [some (.ref 1), some (.long a1), o2, o3, some (.int a4)]) (S2 := [.int a4]) (pc2 := 7) op14_5 rfl rfl ?_
    refine ry_if_lt (tgt := 53) (pc2 := 10) op14_7 (by decide) (by decide) rfl (fun b2 => ?_) (fun b2 => ?_)
    · have h := (if_pos b2).symm.trans h
      cases h
      exact hr _ rfl _ _ _ _ _
    · have h := (if_neg b2).symm.trans h
      refine rx_p (L2 := [some (.ref 1), some (.long a1), o2, o3, some (.int a4)]) (S2 := [.ref 1]) (pc2 := 11) op14_10 rfl rfl ?_
      refine rx_gf (v := .int (m.1 1 1)) (pc2 := 14) op14_11 sp_1 rfl rfl rfl ?_
      refine rx_bp (v := 80) (pc2 := 16) op14_14 (by decide) rfl ?_
      refine ry_ic_ge (tgt := 53) (pc2 := 19) op14_16 (by decide) (by decide) rfl (fun b3 => ?_) (fun b3 => ?_)
      · have h := (if_pos b3).symm.trans h
        refine rx_p (L2 := [some (.ref 1), some (.long a1), o2, o3, some (.int a4)]) (S2 := [.ref 1]) (pc2 := 20) op14_19 rfl rfl ?_
        refine rx_gf (v := .ref 2) (pc2 := 23) op14_20 sp_1 rfl rfl rfl ?_
        refine rx_p (L2 := [some (.ref 1), some (.long a1), o2, o3, some (.int a4)]) (S2 := [.ref 1, .ref 2]) (pc2 := 24) op14_23 rfl rfl ?_
        refine rx_gf (v := .int (m.1 1 1)) (pc2 := 27) op14_24 sp_1 rfl rfl rfl ?_
        refine rx_p (L2 := [some (.ref 1), some (.long a1), o2, o3, some (.int a4)]) (S2 := [.long a1, .int (m.1 1 1), .ref 2]) (pc2 := 28) op14_27 rfl rfl ?_
        refine rx_bp (v := 8) (pc2 := 30) op14_28 (by decide) rfl ?_
        refine rx_p (L2 := [some (.ref 1), some (.long a1), o2, o3, some (.int a4)]) (S2 := [.int a4, .int 8, .long a1, .int (m.1 1 1), .ref 2]) (pc2 := 32) op14_30 rfl rfl ?_
        refine rx_p (L2 := [some (.ref 1), some (.long a1), o2, o3, some (.int a4)]) (S2 := [.int ((8 : Int32) * a4), .long a1, .int (m.1 1 1), .ref 2]) (pc2 := 33) op14_32 rfl rfl ?_
        refine rx_p (L2 := [some (.ref 1), some (.long a1), o2, o3, some (.int a4)]) (S2 := [.long (a1 >>> (((8 : Int32) * a4).toInt64 &&& 63)), .int (m.1 1 1), .ref 2]) (pc2 := 34) op14_33 rfl rfl ?_
        refine rx_p (L2 := [some (.ref 1), some (.long a1), o2, o3, some (.int a4)]) (S2 := [.int ((a1 >>> (((8 : Int32) * a4).toInt64 &&& 63)).toInt32), .int (m.1 1 1), .ref 2]) (pc2 := 35) op14_34 rfl rfl ?_
        refine rx_p (L2 := [some (.ref 1), some (.long a1), o2, o3, some (.int a4)]) (S2 := [.int (((a1 >>> (((8 : Int32) * a4).toInt64 &&& 63)).toInt32).toInt8.toInt32), .int (m.1 1 1), .ref 2]) (pc2 := 36) op14_35 rfl rfl ?_
        obtain ⟨k5, h⟩ := rq_chk h
        obtain ⟨m4, em4, h⟩ := rq_bv h
        refine rx_bs (m2 := m4) (pc2 := 37) op14_36 sp_2 k5 rfl em4 rfl ?_
        refine rx_p (L2 := [some (.ref 1), some (.long a1), o2, o3, some (.int a4)]) (S2 := [.ref 1]) (pc2 := 38) op14_37 rfl rfl ?_
        refine rx_p (L2 := [some (.ref 1), some (.long a1), o2, o3, some (.int a4)]) (S2 := [.ref 1, .ref 1]) (pc2 := 39) op14_38 rfl rfl ?_
        refine rx_gf (v := .int (m4.1 1 1)) (pc2 := 42) op14_39 sp_1 rfl rfl rfl ?_
        refine rx_ic (v := 1) (pc2 := 43) op14_42 (by decide) rfl ?_
        refine rx_p (L2 := [some (.ref 1), some (.long a1), o2, o3, some (.int a4)]) (S2 := [.int ((m4.1 1 1) + 1), .ref 1]) (pc2 := 44) op14_43 rfl rfl ?_
        obtain ⟨m6, em6, h⟩ := rq_bv h
        refine rx_pf (m2 := m6) (pc2 := 47) op14_44 sp_1 rfl em6 rfl ?_
        obtain ⟨x7, ex7, h⟩ := rq_bv h
        refine rx_incd (w := (-1)) (v := x7) (j := 3) (pc2 := 50) op14_47 rfl (by decide) ex7 rfl (fun o8 => ?_)
        show rn_R _ _ _ _ [some (.ref 1), some (.long a1), o2, o8, some (.int x7)] _ _ _ _
        refine ry_go (tgt := 5) op14_50 (by decide) (by decide) ?_
        exact ih _ _ _ _ h
      · have h := (if_neg b3).symm.trans h
        cases h
        exact hr _ rfl _ _ _ _ _
set_option maxHeartbeats 4000000 in
set_option maxRecDepth 20000 in
theorem tp_append_ok (xs : List Int32) {d : Nat} (hd : 0 ≤ d) {n : Nat} {a1 : Int64} {a2 : Int32} {m mO : rn_Mem} (h : tp_append n a1 a2 m = some mO) : rn_R xs d 14 0 (rn_ent 5 [.ref 1, .long a1, .int a2]) [] (rn_SH, m) none (rn_SH, mO) := by
  unfold tp_append at h
  show rn_R xs d 14 0 [some (.ref 1), some (.long a1), none, some (.int a2), none] [] (rn_SH, m) none (rn_SH, mO)
  refine rx_p (L2 := [some (.ref 1), some (.long a1), none, some (.int a2), none]) (S2 := [.int a2]) (pc2 := 1) op14_0 rfl rfl ?_
  refine rx_ic (v := 1) (pc2 := 2) op14_1 (by decide) rfl ?_
  refine rx_p (L2 := [some (.ref 1), some (.long a1), none, some (.int a2), none]) (S2 := [.int (a2 - 1)]) (pc2 := 3) op14_2 rfl rfl ?_
  obtain ⟨x1, ex1, h⟩ := rq_bv h
  refine rx_s (v := x1) (L2 := [some (.ref 1), some (.long a1), none, some (.int a2), some (.int x1)]) (pc2 := 5) op14_3 ex1 rfl rfl ?_
  obtain ⟨m9, f15, h⟩ := rq_bind h
  refine tp_append_l5_ok xs (fun m0 eq => ?_) _ _ _ _ _  f15
  subst eq
  try dsimp only at h
  intro o10 o11 o12 o13 o14
  obtain rfl := Option.some.inj h
  exact ry_rv op14_53 ms_14 rfl
/-! lt_type -/
theorem op12_0 : rn_op 12 0 = some (.iload_n 3, 1, 0, 0, 0) := by decide +kernel
theorem op12_1 : rn_op 12 1 = some (.iconst 1, 1, 0, 0, 0) := by decide +kernel
theorem op12_2 : rn_op 12 2 = some (.if_icmp .lt 17, 3, 0, 0, 0) := by decide +kernel
theorem op12_5 : rn_op 12 5 = some (.iload_n 3, 1, 0, 0, 0) := by decide +kernel
theorem op12_6 : rn_op 12 6 = some (.bipush 8, 2, 0, 0, 0) := by decide +kernel
theorem op12_8 : rn_op 12 8 = some (.if_icmp .gt 11, 3, 0, 0, 0) := by decide +kernel
theorem op12_11 : rn_op 12 11 = some (.lload_n 1, 1, 0, 0, 0) := by decide +kernel
theorem op12_12 : rn_op 12 12 = some (.iload_n 3, 1, 0, 0, 0) := by decide +kernel
theorem op12_13 : rn_op 12 13 = some (.invokestatic 50, 3, 13, 2, 0) := by decide +kernel
theorem op12_16 : rn_op 12 16 = some (.ifCond .ne 5, 3, 0, 0, 0) := by decide +kernel
theorem op12_19 : rn_op 12 19 = some (.iconst (-1), 1, 0, 0, 0) := by decide +kernel
theorem op12_20 : rn_op 12 20 = some (.ireturn, 1, 0, 0, 0) := by decide +kernel
theorem op12_21 : rn_op 12 21 = some (.aload_n 0, 1, 0, 0, 0) := by decide +kernel
theorem op12_22 : rn_op 12 22 = some (.getfield 12, 3, 10, 0, 3) := by decide +kernel
theorem op12_25 : rn_op 12 25 = some (.getfield 54, 3, 8, 1, 0) := by decide +kernel
theorem op12_28 : rn_op 12 28 = some (.iload_n 3, 1, 0, 0, 0) := by decide +kernel
theorem op12_29 : rn_op 12 29 = some (.iadd, 1, 0, 0, 0) := by decide +kernel
theorem op12_30 : rn_op 12 30 = some (.bipush 80, 2, 0, 0, 0) := by decide +kernel
theorem op12_32 : rn_op 12 32 = some (.if_icmp .le 6, 3, 0, 0, 0) := by decide +kernel
theorem op12_35 : rn_op 12 35 = some (.bipush (-3), 2, 0, 0, 0) := by decide +kernel
theorem op12_37 : rn_op 12 37 = some (.ireturn, 1, 0, 0, 0) := by decide +kernel
theorem op12_38 : rn_op 12 38 = some (.aload_n 0, 1, 0, 0, 0) := by decide +kernel
theorem op12_39 : rn_op 12 39 = some (.getfield 12, 3, 10, 0, 3) := by decide +kernel
theorem op12_42 : rn_op 12 42 = some (.lload_n 1, 1, 0, 0, 0) := by decide +kernel
theorem op12_43 : rn_op 12 43 = some (.iload_n 3, 1, 0, 0, 0) := by decide +kernel
theorem op12_44 : rn_op 12 44 = some (.invokevirtual 58, 3, 14, 3, 8) := by decide +kernel
theorem op12_47 : rn_op 12 47 = some (.aload_n 0, 1, 0, 0, 0) := by decide +kernel
theorem op12_48 : rn_op 12 48 = some (.getfield 12, 3, 10, 0, 3) := by decide +kernel
theorem op12_51 : rn_op 12 51 = some (.getfield 54, 3, 8, 1, 0) := by decide +kernel
theorem op12_54 : rn_op 12 54 = some (.ireturn, 1, 0, 0, 0) := by decide +kernel
def lt_type (n : Nat) (a1 : Int64) (a2 : Int32) (m : rn_Mem) : Option (Int32 × rn_Mem) :=
  if a2 < 1 then
    some ((-1), m)
  else
    if 8 < a2 then
      some ((-1), m)
    else
      (tp_typable n a1 a2 m).bind fun (r4, m3) =>
      if r4 = 0 then
        some ((-1), m3)
      else
        if 80 < ((m3.1 1 1) + a2) then
          some ((-3), m3)
        else
          (tp_append n a1 a2 m3).bind fun m8 =>
          some (m8.1 1 1, m8)
set_option maxHeartbeats 4000000 in
set_option maxRecDepth 20000 in
theorem lt_type_ok (xs : List Int32) {d : Nat} (hd : 1 ≤ d) {n : Nat} {a1 : Int64} {a2 : Int32} {m mO : rn_Mem} {rO : Int32} (h : lt_type n a1 a2 m = some (rO, mO)) : rn_R xs d 12 0 (rn_ent 4 [.ref 0, .long a1, .int a2]) [] (rn_SH, m) (some (.int rO)) (rn_SH, mO) := by
  obtain ⟨d, rfl⟩ : ∃ e, d = e + 1 := ⟨d - 1, by omega⟩
  unfold lt_type at h
  show rn_R xs (d + 1) 12 0 [some (.ref 0), some (.long a1), none, some (.int a2)] [] (rn_SH, m) (some (.int rO)) (rn_SH, mO)
  refine rx_p (L2 := [some (.ref 0), some (.long a1), none, some (.int a2)]) (S2 := [.int a2]) (pc2 := 1) op12_0 rfl rfl ?_
  refine rx_ic (v := 1) (pc2 := 2) op12_1 (by decide) rfl ?_
  refine ry_ic_lt (tgt := 19) (pc2 := 5) op12_2 (by decide) (by decide) rfl (fun b1 => ?_) (fun b1 => ?_)
  · have h := (if_pos b1).symm.trans h
    refine rx_ic (v := (-1)) (pc2 := 20) op12_19 (by decide) rfl ?_
    obtain ⟨rfl, rfl⟩ := rq_ret h
    exact ry_ri op12_20 ms_12 rfl
  · have h := (if_neg b1).symm.trans h
    refine rx_p (L2 := [some (.ref 0), some (.long a1), none, some (.int a2)]) (S2 := [.int a2]) (pc2 := 6) op12_5 rfl rfl ?_
    refine rx_bp (v := 8) (pc2 := 8) op12_6 (by decide) rfl ?_
    refine ry_ic_gt (tgt := 19) (pc2 := 11) op12_8 (by decide) (by decide) rfl (fun b2 => ?_) (fun b2 => ?_)
    · have h := (if_pos b2).symm.trans h
      refine rx_ic (v := (-1)) (pc2 := 20) op12_19 (by decide) rfl ?_
      obtain ⟨rfl, rfl⟩ := rq_ret h
      exact ry_ri op12_20 ms_12 rfl
    · have h := (if_neg b2).symm.trans h
      refine rx_p (L2 := [some (.ref 0), some (.long a1), none, some (.int a2)]) (S2 := [.long a1]) (pc2 := 12) op12_11 rfl rfl ?_
      refine rx_p (L2 := [some (.ref 0), some (.long a1), none, some (.int a2)]) (S2 := [.int a2, .long a1]) (pc2 := 13) op12_12 rfl rfl ?_
      obtain ⟨⟨r4, m3⟩, f5, h⟩ := rq_bind h
      try dsimp only at h
      refine ry_is (vs := [.long a1, .int a2]) (T := []) (pc2 := 16) op12_13 (by decide) ms_13 (by decide) rfl rfl (Nat.le_of_ble_eq_true rfl) (Nat.le_of_ble_eq_true rfl) (tp_typable_ok xs (by omega)  f5) rfl ?_
      show rn_R _ _ _ _ _ [.int r4] _ _ _
      refine ry_if_ne (tgt := 21) (pc2 := 19) op12_16 (by decide) (by decide) rfl (fun b6 => ?_) (fun b6 => ?_)
      · have h := (if_pos b6).symm.trans h
        refine rx_ic (v := (-1)) (pc2 := 20) op12_19 (by decide) rfl ?_
        obtain ⟨rfl, rfl⟩ := rq_ret h
        exact ry_ri op12_20 ms_12 rfl
      · have h := (if_neg b6).symm.trans h
        refine rx_p (L2 := [some (.ref 0), some (.long a1), none, some (.int a2)]) (S2 := [.ref 0]) (pc2 := 22) op12_21 rfl rfl ?_
        refine rx_gf (v := .ref 1) (pc2 := 25) op12_22 sp_0 rfl rfl rfl ?_
        refine rx_gf (v := .int (m3.1 1 1)) (pc2 := 28) op12_25 sp_1 rfl rfl rfl ?_
        refine rx_p (L2 := [some (.ref 0), some (.long a1), none, some (.int a2)]) (S2 := [.int a2, .int (m3.1 1 1)]) (pc2 := 29) op12_28 rfl rfl ?_
        refine rx_p (L2 := [some (.ref 0), some (.long a1), none, some (.int a2)]) (S2 := [.int ((m3.1 1 1) + a2)]) (pc2 := 30) op12_29 rfl rfl ?_
        refine rx_bp (v := 80) (pc2 := 32) op12_30 (by decide) rfl ?_
        refine ry_ic_le (tgt := 38) (pc2 := 35) op12_32 (by decide) (by decide) rfl (fun b7 => ?_) (fun b7 => ?_)
        · have h := (if_pos b7).symm.trans h
          refine rx_bp (v := (-3)) (pc2 := 37) op12_35 (by decide) rfl ?_
          obtain ⟨rfl, rfl⟩ := rq_ret h
          exact ry_ri op12_37 ms_12 rfl
        · have h := (if_neg b7).symm.trans h
          refine rx_p (L2 := [some (.ref 0), some (.long a1), none, some (.int a2)]) (S2 := [.ref 0]) (pc2 := 39) op12_38 rfl rfl ?_
          refine rx_gf (v := .ref 1) (pc2 := 42) op12_39 sp_0 rfl rfl rfl ?_
          refine rx_p (L2 := [some (.ref 0), some (.long a1), none, some (.int a2)]) (S2 := [.long a1, .ref 1]) (pc2 := 43) op12_42 rfl rfl ?_
          refine rx_p (L2 := [some (.ref 0), some (.long a1), none, some (.int a2)]) (S2 := [.int a2, .long a1, .ref 1]) (pc2 := 44) op12_43 rfl rfl ?_
          obtain ⟨m8, f9, h⟩ := rq_bind h
          try dsimp only at h
          refine ry_iv (p := 1) (vs := [.long a1, .int a2]) (T := []) (pc2 := 47) op12_44 ms_14 (by decide) rfl rfl (Nat.le_of_ble_eq_true rfl) (Nat.le_of_ble_eq_true rfl) sp_1 (tp_append_ok xs (by omega)  f9) rfl ?_
          show rn_R _ _ _ _ _ [] _ _ _
          refine rx_p (L2 := [some (.ref 0), some (.long a1), none, some (.int a2)]) (S2 := [.ref 0]) (pc2 := 48) op12_47 rfl rfl ?_
          refine rx_gf (v := .ref 1) (pc2 := 51) op12_48 sp_0 rfl rfl rfl ?_
          refine rx_gf (v := .int (m8.1 1 1)) (pc2 := 54) op12_51 sp_1 rfl rfl rfl ?_
          obtain ⟨rfl, rfl⟩ := rq_ret h
          exact ry_ri op12_54 ms_12 rfl
/-! tp_peek -/
theorem op19_0 : rn_op 19 0 = some (.aload_n 0, 1, 0, 0, 0) := by decide +kernel
theorem op19_1 : rn_op 19 1 = some (.getfield 19, 3, 8, 2, 0) := by decide +kernel
theorem op19_4 : rn_op 19 4 = some (.aload_n 0, 1, 0, 0, 0) := by decide +kernel
theorem op19_5 : rn_op 19 5 = some (.getfield 15, 3, 8, 1, 0) := by decide +kernel
theorem op19_8 : rn_op 19 8 = some (.if_icmp .ge 30, 3, 0, 0, 0) := by decide +kernel
theorem op19_11 : rn_op 19 11 = some (.aload_n 0, 1, 0, 0, 0) := by decide +kernel
theorem op19_12 : rn_op 19 12 = some (.getfield 9, 3, 8, 0, 3) := by decide +kernel
theorem op19_15 : rn_op 19 15 = some (.aload_n 0, 1, 0, 0, 0) := by decide +kernel
theorem op19_16 : rn_op 19 16 = some (.getfield 19, 3, 8, 2, 0) := by decide +kernel
theorem op19_19 : rn_op 19 19 = some (.baload, 1, 0, 0, 0) := by decide +kernel
theorem op19_20 : rn_op 19 20 = some (.bipush 32, 2, 0, 0, 0) := by decide +kernel
theorem op19_22 : rn_op 19 22 = some (.if_icmp .ne 16, 3, 0, 0, 0) := by decide +kernel
theorem op19_25 : rn_op 19 25 = some (.aload_n 0, 1, 0, 0, 0) := by decide +kernel
theorem op19_26 : rn_op 19 26 = some (.dup, 1, 0, 0, 0) := by decide +kernel
theorem op19_27 : rn_op 19 27 = some (.getfield 19, 3, 8, 2, 0) := by decide +kernel
theorem op19_30 : rn_op 19 30 = some (.iconst 1, 1, 0, 0, 0) := by decide +kernel
theorem op19_31 : rn_op 19 31 = some (.iadd, 1, 0, 0, 0) := by decide +kernel
theorem op19_32 : rn_op 19 32 = some (.putfield 19, 3, 8, 2, 0) := by decide +kernel
theorem op19_35 : rn_op 19 35 = some (.goto (-35), 3, 0, 0, 0) := by decide +kernel
theorem op19_38 : rn_op 19 38 = some (.aload_n 0, 1, 0, 0, 0) := by decide +kernel
theorem op19_39 : rn_op 19 39 = some (.getfield 19, 3, 8, 2, 0) := by decide +kernel
theorem op19_42 : rn_op 19 42 = some (.aload_n 0, 1, 0, 0, 0) := by decide +kernel
theorem op19_43 : rn_op 19 43 = some (.getfield 15, 3, 8, 1, 0) := by decide +kernel
theorem op19_46 : rn_op 19 46 = some (.if_icmp .ge 15, 3, 0, 0, 0) := by decide +kernel
theorem op19_49 : rn_op 19 49 = some (.aload_n 0, 1, 0, 0, 0) := by decide +kernel
theorem op19_50 : rn_op 19 50 = some (.getfield 9, 3, 8, 0, 3) := by decide +kernel
theorem op19_53 : rn_op 19 53 = some (.aload_n 0, 1, 0, 0, 0) := by decide +kernel
theorem op19_54 : rn_op 19 54 = some (.getfield 19, 3, 8, 2, 0) := by decide +kernel
theorem op19_57 : rn_op 19 57 = some (.baload, 1, 0, 0, 0) := by decide +kernel
theorem op19_58 : rn_op 19 58 = some (.goto 4, 3, 0, 0, 0) := by decide +kernel
theorem op19_61 : rn_op 19 61 = some (.iconst (-1), 1, 0, 0, 0) := by decide +kernel
theorem op19_62 : rn_op 19 62 = some (.ireturn, 1, 0, 0, 0) := by decide +kernel
def tp_peek_l0  : Nat → rn_Mem → Option (rn_Mem)
  | 0, _ => none
  | n + 1, m =>
    if (m.1 1 2) < (m.1 1 1) then
      if rn_in (m.1 1 2) 80 = true then
        if (m.1 2 (m.1 1 2).toNatClampNeg) = 32 then
          (some (rm_i m 1 2 ((m.1 1 2) + 1))).bind fun (m4 : rn_Mem) =>
          tp_peek_l0 n m4
        else
          some m
      else none
    else
      some m
def tp_peek (n : Nat)  (m : rn_Mem) : Option (Int32 × rn_Mem) :=
  (tp_peek_l0 n m).bind fun m5 =>
  if (m5.1 1 2) < (m5.1 1 1) then
    if rn_in (m5.1 1 2) 80 = true then
      some (m5.1 2 (m5.1 1 2).toNatClampNeg, m5)
    else none
  else
    some ((-1), m5)
set_option maxHeartbeats 4000000 in
set_option maxRecDepth 20000 in
theorem tp_peek_l0_ok (xs : List Int32) {d : Nat} {r : Option Value} {τ : rn_H} {out : rn_Mem} (hr : ∀ (mO : rn_Mem), out = mO → ∀ (_ : Unit), rn_R xs d 19 38 [some (.ref 1)] [] (rn_SH, mO) r τ) : ∀ (n : Nat) (m : rn_Mem), tp_peek_l0 n m = some out → rn_R xs d 19 0 [some (.ref 1)] [] (rn_SH, m) r τ := by
  intro n
  induction n with
  | zero =>
    intro _ h
    cases h
  | succ n ih =>
    intro m h
    unfold tp_peek_l0 at h
    try dsimp only at h
    refine rx_p (L2 := [some (.ref 1)]) (S2 := [.ref 1]) (pc2 := 1) op19_0 rfl rfl ?_
    refine rx_gf (v := .int (m.1 1 2)) (pc2 := 4) op19_1 sp_1 rfl rfl rfl ?_
    refine rx_p (L2 := [some (.ref 1)]) (S2 := [.ref 1, .int (m.1 1 2)]) (pc2 := 5) op19_4 rfl rfl ?_
    refine rx_gf (v := .int (m.1 1 1)) (pc2 := 8) op19_5 sp_1 rfl rfl rfl ?_
    refine ry_ic_ge (tgt := 38) (pc2 := 11) op19_8 (by decide) (by decide) rfl (fun b1 => ?_) (fun b1 => ?_)
    · have h := (if_pos b1).symm.trans h
      refine rx_p (L2 := [some (.ref 1)]) (S2 := [.ref 1]) (pc2 := 12) op19_11 rfl rfl ?_
      refine rx_gf (v := .ref 2) (pc2 := 15) op19_12 sp_1 rfl rfl rfl ?_
      refine rx_p (L2 := [some (.ref 1)]) (S2 := [.ref 1, .ref 2]) (pc2 := 16) op19_15 rfl rfl ?_
      refine rx_gf (v := .int (m.1 1 2)) (pc2 := 19) op19_16 sp_1 rfl rfl rfl ?_
      obtain ⟨k2, h⟩ := rq_chk h
      refine rx_ba (pc2 := 20) op19_19 sp_2 k2 rfl rfl ?_
      refine rx_bp (v := 32) (pc2 := 22) op19_20 (by decide) rfl ?_
      refine ry_ic_ne (tgt := 38) (pc2 := 25) op19_22 (by decide) (by decide) rfl (fun b3 => ?_) (fun b3 => ?_)
      · have h := (if_pos b3).symm.trans h
        refine rx_p (L2 := [some (.ref 1)]) (S2 := [.ref 1]) (pc2 := 26) op19_25 rfl rfl ?_
        refine rx_p (L2 := [some (.ref 1)]) (S2 := [.ref 1, .ref 1]) (pc2 := 27) op19_26 rfl rfl ?_
        refine rx_gf (v := .int (m.1 1 2)) (pc2 := 30) op19_27 sp_1 rfl rfl rfl ?_
        refine rx_ic (v := 1) (pc2 := 31) op19_30 (by decide) rfl ?_
        refine rx_p (L2 := [some (.ref 1)]) (S2 := [.int ((m.1 1 2) + 1), .ref 1]) (pc2 := 32) op19_31 rfl rfl ?_
        obtain ⟨m4, em4, h⟩ := rq_bv h
        refine rx_pf (m2 := m4) (pc2 := 35) op19_32 sp_1 rfl em4 rfl ?_
        refine ry_go (tgt := 0) op19_35 (by decide) (by decide) ?_
        exact ih _ h
      · have h := (if_neg b3).symm.trans h
        cases h
        exact hr _ rfl ()
    · have h := (if_neg b1).symm.trans h
      cases h
      exact hr _ rfl ()
set_option maxHeartbeats 4000000 in
set_option maxRecDepth 20000 in
theorem tp_peek_ok (xs : List Int32) {d : Nat} (hd : 0 ≤ d) {n : Nat} {m mO : rn_Mem} {rO : Int32} (h : tp_peek n  m = some (rO, mO)) : rn_R xs d 19 0 (rn_ent 1 [.ref 1]) [] (rn_SH, m) (some (.int rO)) (rn_SH, mO) := by
  unfold tp_peek at h
  show rn_R xs d 19 0 [some (.ref 1)] [] (rn_SH, m) (some (.int rO)) (rn_SH, mO)
  obtain ⟨m5, f8, h⟩ := rq_bind h
  refine tp_peek_l0_ok xs (fun m0 eq => ?_) _  _  f8
  subst eq
  try dsimp only at h
  intro _
  refine rx_p (L2 := [some (.ref 1)]) (S2 := [.ref 1]) (pc2 := 39) op19_38 rfl rfl ?_
  refine rx_gf (v := .int (m5.1 1 2)) (pc2 := 42) op19_39 sp_1 rfl rfl rfl ?_
  refine rx_p (L2 := [some (.ref 1)]) (S2 := [.ref 1, .int (m5.1 1 2)]) (pc2 := 43) op19_42 rfl rfl ?_
  refine rx_gf (v := .int (m5.1 1 1)) (pc2 := 46) op19_43 sp_1 rfl rfl rfl ?_
  refine ry_ic_ge (tgt := 61) (pc2 := 49) op19_46 (by decide) (by decide) rfl (fun b6 => ?_) (fun b6 => ?_)
  · have h := (if_pos b6).symm.trans h
    refine rx_p (L2 := [some (.ref 1)]) (S2 := [.ref 1]) (pc2 := 50) op19_49 rfl rfl ?_
    refine rx_gf (v := .ref 2) (pc2 := 53) op19_50 sp_1 rfl rfl rfl ?_
    refine rx_p (L2 := [some (.ref 1)]) (S2 := [.ref 1, .ref 2]) (pc2 := 54) op19_53 rfl rfl ?_
    refine rx_gf (v := .int (m5.1 1 2)) (pc2 := 57) op19_54 sp_1 rfl rfl rfl ?_
    obtain ⟨k7, h⟩ := rq_chk h
    refine rx_ba (pc2 := 58) op19_57 sp_2 k7 rfl rfl ?_
    refine ry_go (tgt := 62) op19_58 (by decide) (by decide) ?_
    obtain ⟨rfl, rfl⟩ := rq_ret h
    exact ry_ri op19_62 ms_19 rfl
  · have h := (if_neg b6).symm.trans h
    refine rx_ic (v := (-1)) (pc2 := 62) op19_61 (by decide) rfl ?_
    obtain ⟨rfl, rfl⟩ := rq_ret h
    exact ry_ri op19_62 ms_19 rfl
/-! tp_take -/
theorem op18_0 : rn_op 18 0 = some (.aload_n 0, 1, 0, 0, 0) := by decide +kernel
theorem op18_1 : rn_op 18 1 = some (.invokevirtual 71, 3, 19, 1, 8) := by decide +kernel
theorem op18_4 : rn_op 18 4 = some (.iload_n 1, 1, 0, 0, 0) := by decide +kernel
theorem op18_5 : rn_op 18 5 = some (.if_icmp .eq 5, 3, 0, 0, 0) := by decide +kernel
theorem op18_8 : rn_op 18 8 = some (.iconst 0, 1, 0, 0, 0) := by decide +kernel
theorem op18_9 : rn_op 18 9 = some (.ireturn, 1, 0, 0, 0) := by decide +kernel
theorem op18_10 : rn_op 18 10 = some (.aload_n 0, 1, 0, 0, 0) := by decide +kernel
theorem op18_11 : rn_op 18 11 = some (.dup, 1, 0, 0, 0) := by decide +kernel
theorem op18_12 : rn_op 18 12 = some (.getfield 19, 3, 8, 2, 0) := by decide +kernel
theorem op18_15 : rn_op 18 15 = some (.iconst 1, 1, 0, 0, 0) := by decide +kernel
theorem op18_16 : rn_op 18 16 = some (.iadd, 1, 0, 0, 0) := by decide +kernel
theorem op18_17 : rn_op 18 17 = some (.putfield 19, 3, 8, 2, 0) := by decide +kernel
theorem op18_20 : rn_op 18 20 = some (.iconst 1, 1, 0, 0, 0) := by decide +kernel
theorem op18_21 : rn_op 18 21 = some (.ireturn, 1, 0, 0, 0) := by decide +kernel
def tp_take (n : Nat) (a1 : Int32) (m : rn_Mem) : Option (Int32 × rn_Mem) :=
  (tp_peek n m).bind fun (r2, m1) =>
  if r2 = a1 then
    (some (rm_i m1 1 2 ((m1.1 1 2) + 1))).bind fun (m5 : rn_Mem) =>
    some (1, m5)
  else
    some (0, m1)
set_option maxHeartbeats 4000000 in
set_option maxRecDepth 20000 in
theorem tp_take_ok (xs : List Int32) {d : Nat} (hd : 1 ≤ d) {n : Nat} {a1 : Int32} {m mO : rn_Mem} {rO : Int32} (h : tp_take n a1 m = some (rO, mO)) : rn_R xs d 18 0 (rn_ent 2 [.ref 1, .int a1]) [] (rn_SH, m) (some (.int rO)) (rn_SH, mO) := by
  obtain ⟨d, rfl⟩ : ∃ e, d = e + 1 := ⟨d - 1, by omega⟩
  unfold tp_take at h
  show rn_R xs (d + 1) 18 0 [some (.ref 1), some (.int a1)] [] (rn_SH, m) (some (.int rO)) (rn_SH, mO)
  refine rx_p (L2 := [some (.ref 1), some (.int a1)]) (S2 := [.ref 1]) (pc2 := 1) op18_0 rfl rfl ?_
  obtain ⟨⟨r2, m1⟩, f3, h⟩ := rq_bind h
  try dsimp only at h
  refine ry_iv (p := 1) (vs := []) (T := []) (pc2 := 4) op18_1 ms_19 (by decide) rfl rfl (Nat.le_of_ble_eq_true rfl) (Nat.le_of_ble_eq_true rfl) sp_1 (tp_peek_ok xs (by omega)  f3) rfl ?_
  show rn_R _ _ _ _ _ [.int r2] _ _ _
  refine rx_p (L2 := [some (.ref 1), some (.int a1)]) (S2 := [.int a1, .int r2]) (pc2 := 5) op18_4 rfl rfl ?_
  refine ry_ic_eq (tgt := 10) (pc2 := 8) op18_5 (by decide) (by decide) rfl (fun b4 => ?_) (fun b4 => ?_)
  · have h := (if_pos b4).symm.trans h
    refine rx_p (L2 := [some (.ref 1), some (.int a1)]) (S2 := [.ref 1]) (pc2 := 11) op18_10 rfl rfl ?_
    refine rx_p (L2 := [some (.ref 1), some (.int a1)]) (S2 := [.ref 1, .ref 1]) (pc2 := 12) op18_11 rfl rfl ?_
    refine rx_gf (v := .int (m1.1 1 2)) (pc2 := 15) op18_12 sp_1 rfl rfl rfl ?_
    refine rx_ic (v := 1) (pc2 := 16) op18_15 (by decide) rfl ?_
    refine rx_p (L2 := [some (.ref 1), some (.int a1)]) (S2 := [.int ((m1.1 1 2) + 1), .ref 1]) (pc2 := 17) op18_16 rfl rfl ?_
    obtain ⟨m5, em5, h⟩ := rq_bv h
    refine rx_pf (m2 := m5) (pc2 := 20) op18_17 sp_1 rfl em5 rfl ?_
    refine rx_ic (v := 1) (pc2 := 21) op18_20 (by decide) rfl ?_
    obtain ⟨rfl, rfl⟩ := rq_ret h
    exact ry_rz (x := 1) op18_21 ms_18 rfl (by decide)
  · have h := (if_neg b4).symm.trans h
    refine rx_ic (v := 0) (pc2 := 9) op18_8 (by decide) rfl ?_
    obtain ⟨rfl, rfl⟩ := rq_ret h
    exact ry_rz (x := 0) op18_9 ms_18 rfl (by decide)
/-! tp_digit -/
theorem op20_0 : rn_op 20 0 = some (.aload_n 0, 1, 0, 0, 0) := by decide +kernel
theorem op20_1 : rn_op 20 1 = some (.invokevirtual 71, 3, 19, 1, 8) := by decide +kernel
theorem op20_4 : rn_op 20 4 = some (.bipush 48, 2, 0, 0, 0) := by decide +kernel
theorem op20_6 : rn_op 20 6 = some (.isub, 1, 0, 0, 0) := by decide +kernel
theorem op20_7 : rn_op 20 7 = some (.istore_n 3, 1, 0, 0, 0) := by decide +kernel
theorem op20_8 : rn_op 20 8 = some (.iload_n 3, 1, 0, 0, 0) := by decide +kernel
theorem op20_9 : rn_op 20 9 = some (.iload_n 1, 1, 0, 0, 0) := by decide +kernel
theorem op20_10 : rn_op 20 10 = some (.if_icmp .lt 8, 3, 0, 0, 0) := by decide +kernel
theorem op20_13 : rn_op 20 13 = some (.iload_n 3, 1, 0, 0, 0) := by decide +kernel
theorem op20_14 : rn_op 20 14 = some (.iload_n 2, 1, 0, 0, 0) := by decide +kernel
theorem op20_15 : rn_op 20 15 = some (.if_icmp .le 5, 3, 0, 0, 0) := by decide +kernel
theorem op20_18 : rn_op 20 18 = some (.iconst (-1), 1, 0, 0, 0) := by decide +kernel
theorem op20_19 : rn_op 20 19 = some (.ireturn, 1, 0, 0, 0) := by decide +kernel
theorem op20_20 : rn_op 20 20 = some (.aload_n 0, 1, 0, 0, 0) := by decide +kernel
theorem op20_21 : rn_op 20 21 = some (.dup, 1, 0, 0, 0) := by decide +kernel
theorem op20_22 : rn_op 20 22 = some (.getfield 19, 3, 8, 2, 0) := by decide +kernel
theorem op20_25 : rn_op 20 25 = some (.iconst 1, 1, 0, 0, 0) := by decide +kernel
theorem op20_26 : rn_op 20 26 = some (.iadd, 1, 0, 0, 0) := by decide +kernel
theorem op20_27 : rn_op 20 27 = some (.putfield 19, 3, 8, 2, 0) := by decide +kernel
theorem op20_30 : rn_op 20 30 = some (.iload_n 3, 1, 0, 0, 0) := by decide +kernel
theorem op20_31 : rn_op 20 31 = some (.ireturn, 1, 0, 0, 0) := by decide +kernel
def tp_digit (n : Nat) (a1 : Int32) (a2 : Int32) (m : rn_Mem) : Option (Int32 × rn_Mem) :=
  (tp_peek n m).bind fun (r2, m1) =>
  (some (r2 - 48)).bind fun (x4 : Int32) =>
  if x4 < a1 then
    some ((-1), m1)
  else
    if a2 < x4 then
      some ((-1), m1)
    else
      (some (rm_i m1 1 2 ((m1.1 1 2) + 1))).bind fun (m7 : rn_Mem) =>
      some (x4, m7)
set_option maxHeartbeats 4000000 in
set_option maxRecDepth 20000 in
theorem tp_digit_ok (xs : List Int32) {d : Nat} (hd : 1 ≤ d) {n : Nat} {a1 : Int32} {a2 : Int32} {m mO : rn_Mem} {rO : Int32} (h : tp_digit n a1 a2 m = some (rO, mO)) : rn_R xs d 20 0 (rn_ent 4 [.ref 1, .int a1, .int a2]) [] (rn_SH, m) (some (.int rO)) (rn_SH, mO) := by
  obtain ⟨d, rfl⟩ : ∃ e, d = e + 1 := ⟨d - 1, by omega⟩
  unfold tp_digit at h
  show rn_R xs (d + 1) 20 0 [some (.ref 1), some (.int a1), some (.int a2), none] [] (rn_SH, m) (some (.int rO)) (rn_SH, mO)
  refine rx_p (L2 := [some (.ref 1), some (.int a1), some (.int a2), none]) (S2 := [.ref 1]) (pc2 := 1) op20_0 rfl rfl ?_
  obtain ⟨⟨r2, m1⟩, f3, h⟩ := rq_bind h
  try dsimp only at h
  refine ry_iv (p := 1) (vs := []) (T := []) (pc2 := 4) op20_1 ms_19 (by decide) rfl rfl (Nat.le_of_ble_eq_true rfl) (Nat.le_of_ble_eq_true rfl) sp_1 (tp_peek_ok xs (by omega)  f3) rfl ?_
  show rn_R _ _ _ _ _ [.int r2] _ _ _
  refine rx_bp (v := 48) (pc2 := 6) op20_4 (by decide) rfl ?_
  refine rx_p (L2 := [some (.ref 1), some (.int a1), some (.int a2), none]) (S2 := [.int (r2 - 48)]) (pc2 := 7) op20_6 rfl rfl ?_
  obtain ⟨x4, ex4, h⟩ := rq_bv h
  refine rx_s (v := x4) (L2 := [some (.ref 1), some (.int a1), some (.int a2), some (.int x4)]) (pc2 := 8) op20_7 ex4 rfl rfl ?_
  refine rx_p (L2 := [some (.ref 1), some (.int a1), some (.int a2), some (.int x4)]) (S2 := [.int x4]) (pc2 := 9) op20_8 rfl rfl ?_
  refine rx_p (L2 := [some (.ref 1), some (.int a1), some (.int a2), some (.int x4)]) (S2 := [.int a1, .int x4]) (pc2 := 10) op20_9 rfl rfl ?_
  refine ry_ic_lt (tgt := 18) (pc2 := 13) op20_10 (by decide) (by decide) rfl (fun b5 => ?_) (fun b5 => ?_)
  · have h := (if_pos b5).symm.trans h
    refine rx_ic (v := (-1)) (pc2 := 19) op20_18 (by decide) rfl ?_
    obtain ⟨rfl, rfl⟩ := rq_ret h
    exact ry_ri op20_19 ms_20 rfl
  · have h := (if_neg b5).symm.trans h
    refine rx_p (L2 := [some (.ref 1), some (.int a1), some (.int a2), some (.int x4)]) (S2 := [.int x4]) (pc2 := 14) op20_13 rfl rfl ?_
    refine rx_p (L2 := [some (.ref 1), some (.int a1), some (.int a2), some (.int x4)]) (S2 := [.int a2, .int x4]) (pc2 := 15) op20_14 rfl rfl ?_
    refine ry_ic_le (tgt := 20) (pc2 := 18) op20_15 (by decide) (by decide) rfl (fun b6 => ?_) (fun b6 => ?_)
    · have h := (if_pos b6).symm.trans h
      refine rx_ic (v := (-1)) (pc2 := 19) op20_18 (by decide) rfl ?_
      obtain ⟨rfl, rfl⟩ := rq_ret h
      exact ry_ri op20_19 ms_20 rfl
    · have h := (if_neg b6).symm.trans h
      refine rx_p (L2 := [some (.ref 1), some (.int a1), some (.int a2), some (.int x4)]) (S2 := [.ref 1]) (pc2 := 21) op20_20 rfl rfl ?_
      refine rx_p (L2 := [some (.ref 1), some (.int a1), some (.int a2), some (.int x4)]) (S2 := [.ref 1, .ref 1]) (pc2 := 22) op20_21 rfl rfl ?_
      refine rx_gf (v := .int (m1.1 1 2)) (pc2 := 25) op20_22 sp_1 rfl rfl rfl ?_
      refine rx_ic (v := 1) (pc2 := 26) op20_25 (by decide) rfl ?_
      refine rx_p (L2 := [some (.ref 1), some (.int a1), some (.int a2), some (.int x4)]) (S2 := [.int ((m1.1 1 2) + 1), .ref 1]) (pc2 := 27) op20_26 rfl rfl ?_
      obtain ⟨m7, em7, h⟩ := rq_bv h
      refine rx_pf (m2 := m7) (pc2 := 30) op20_27 sp_1 rfl em7 rfl ?_
      refine rx_p (L2 := [some (.ref 1), some (.int a1), some (.int a2), some (.int x4)]) (S2 := [.int x4]) (pc2 := 31) op20_30 rfl rfl ?_
      obtain ⟨rfl, rfl⟩ := rq_ret h
      exact ry_ri op20_31 ms_20 rfl
/-! ja_min -/
theorem op21_0 : rn_op 21 0 = some (.iload_n 0, 1, 0, 0, 0) := by decide +kernel
theorem op21_1 : rn_op 21 1 = some (.iload_n 1, 1, 0, 0, 0) := by decide +kernel
theorem op21_2 : rn_op 21 2 = some (.if_icmp .gt 7, 3, 0, 0, 0) := by decide +kernel
theorem op21_5 : rn_op 21 5 = some (.iload_n 0, 1, 0, 0, 0) := by decide +kernel
theorem op21_6 : rn_op 21 6 = some (.goto 4, 3, 0, 0, 0) := by decide +kernel
theorem op21_9 : rn_op 21 9 = some (.iload_n 1, 1, 0, 0, 0) := by decide +kernel
theorem op21_10 : rn_op 21 10 = some (.ireturn, 1, 0, 0, 0) := by decide +kernel
def ja_min (n : Nat) (a0 : Int32) (a1 : Int32) (m : rn_Mem) : Option (Int32 × rn_Mem) :=
  if a1 < a0 then
    some (a1, m)
  else
    some (a0, m)
set_option maxHeartbeats 4000000 in
set_option maxRecDepth 20000 in
theorem ja_min_ok (xs : List Int32) {d : Nat} (hd : 0 ≤ d) {n : Nat} {a0 : Int32} {a1 : Int32} {m mO : rn_Mem} {rO : Int32} (h : ja_min n a0 a1 m = some (rO, mO)) : rn_R xs d 21 0 (rn_ent 2 [.int a0, .int a1]) [] (rn_SH, m) (some (.int rO)) (rn_SH, mO) := by
  unfold ja_min at h
  show rn_R xs d 21 0 [some (.int a0), some (.int a1)] [] (rn_SH, m) (some (.int rO)) (rn_SH, mO)
  refine rx_p (L2 := [some (.int a0), some (.int a1)]) (S2 := [.int a0]) (pc2 := 1) op21_0 rfl rfl ?_
  refine rx_p (L2 := [some (.int a0), some (.int a1)]) (S2 := [.int a1, .int a0]) (pc2 := 2) op21_1 rfl rfl ?_
  refine ry_ic_gt (tgt := 9) (pc2 := 5) op21_2 (by decide) (by decide) rfl (fun b1 => ?_) (fun b1 => ?_)
  · have h := (if_pos b1).symm.trans h
    refine rx_p (L2 := [some (.int a0), some (.int a1)]) (S2 := [.int a1]) (pc2 := 10) op21_9 rfl rfl ?_
    obtain ⟨rfl, rfl⟩ := rq_ret h
    exact ry_ri op21_10 ms_21 rfl
  · have h := (if_neg b1).symm.trans h
    refine rx_p (L2 := [some (.int a0), some (.int a1)]) (S2 := [.int a0]) (pc2 := 6) op21_5 rfl rfl ?_
    refine ry_go (tgt := 10) op21_6 (by decide) (by decide) ?_
    obtain ⟨rfl, rfl⟩ := rq_ret h
    exact ry_ri op21_10 ms_21 rfl
/-! tp_readSize -/
theorem op17_0 : rn_op 17 0 = some (.aload_n 0, 1, 0, 0, 0) := by decide +kernel
theorem op17_1 : rn_op 17 1 = some (.bipush 110, 2, 0, 0, 0) := by decide +kernel
theorem op17_3 : rn_op 17 3 = some (.invokevirtual 56, 3, 18, 2, 8) := by decide +kernel
theorem op17_6 : rn_op 17 6 = some (.ifCond .ne 5, 3, 0, 0, 0) := by decide +kernel
theorem op17_9 : rn_op 17 9 = some (.iconst 0, 1, 0, 0, 0) := by decide +kernel
theorem op17_10 : rn_op 17 10 = some (.ireturn, 1, 0, 0, 0) := by decide +kernel
theorem op17_11 : rn_op 17 11 = some (.aload_n 0, 1, 0, 0, 0) := by decide +kernel
theorem op17_12 : rn_op 17 12 = some (.iconst 2, 1, 0, 0, 0) := by decide +kernel
theorem op17_13 : rn_op 17 13 = some (.iconst 4, 1, 0, 0, 0) := by decide +kernel
theorem op17_14 : rn_op 17 14 = some (.invokevirtual 77, 3, 20, 3, 8) := by decide +kernel
theorem op17_17 : rn_op 17 17 = some (.istore_n 2, 1, 0, 0, 0) := by decide +kernel
theorem op17_18 : rn_op 17 18 = some (.iload_n 2, 1, 0, 0, 0) := by decide +kernel
theorem op17_19 : rn_op 17 19 = some (.iconst 2, 1, 0, 0, 0) := by decide +kernel
theorem op17_20 : rn_op 17 20 = some (.if_icmp .lt 12, 3, 0, 0, 0) := by decide +kernel
theorem op17_23 : rn_op 17 23 = some (.aload_n 0, 1, 0, 0, 0) := by decide +kernel
theorem op17_24 : rn_op 17 24 = some (.bipush 116, 2, 0, 0, 0) := by decide +kernel
theorem op17_26 : rn_op 17 26 = some (.invokevirtual 56, 3, 18, 2, 8) := by decide +kernel
theorem op17_29 : rn_op 17 29 = some (.ifCond .ne 5, 3, 0, 0, 0) := by decide +kernel
theorem op17_32 : rn_op 17 32 = some (.iconst 0, 1, 0, 0, 0) := by decide +kernel
theorem op17_33 : rn_op 17 33 = some (.ireturn, 1, 0, 0, 0) := by decide +kernel
theorem op17_34 : rn_op 17 34 = some (.aload_n 0, 1, 0, 0, 0) := by decide +kernel
theorem op17_35 : rn_op 17 35 = some (.iconst 1, 1, 0, 0, 0) := by decide +kernel
theorem op17_36 : rn_op 17 36 = some (.iconst 4, 1, 0, 0, 0) := by decide +kernel
theorem op17_37 : rn_op 17 37 = some (.bipush 12, 2, 0, 0, 0) := by decide +kernel
theorem op17_39 : rn_op 17 39 = some (.iload_n 2, 1, 0, 0, 0) := by decide +kernel
theorem op17_40 : rn_op 17 40 = some (.idiv, 1, 0, 0, 0) := by decide +kernel
theorem op17_41 : rn_op 17 41 = some (.invokestatic 81, 3, 21, 2, 0) := by decide +kernel
theorem op17_44 : rn_op 17 44 = some (.invokevirtual 77, 3, 20, 3, 8) := by decide +kernel
theorem op17_47 : rn_op 17 47 = some (.istore_n 3, 1, 0, 0, 0) := by decide +kernel
theorem op17_48 : rn_op 17 48 = some (.iload_n 3, 1, 0, 0, 0) := by decide +kernel
theorem op17_49 : rn_op 17 49 = some (.iconst 1, 1, 0, 0, 0) := by decide +kernel
theorem op17_50 : rn_op 17 50 = some (.if_icmp .ge 5, 3, 0, 0, 0) := by decide +kernel
theorem op17_53 : rn_op 17 53 = some (.iconst 0, 1, 0, 0, 0) := by decide +kernel
theorem op17_54 : rn_op 17 54 = some (.ireturn, 1, 0, 0, 0) := by decide +kernel
theorem op17_55 : rn_op 17 55 = some (.aload_n 1, 1, 0, 0, 0) := by decide +kernel
theorem op17_56 : rn_op 17 56 = some (.iload_n 2, 1, 0, 0, 0) := by decide +kernel
theorem op17_57 : rn_op 17 57 = some (.putfield 53, 3, 1, 1, 0) := by decide +kernel
theorem op17_60 : rn_op 17 60 = some (.aload_n 1, 1, 0, 0, 0) := by decide +kernel
theorem op17_61 : rn_op 17 61 = some (.iload_n 3, 1, 0, 0, 0) := by decide +kernel
theorem op17_62 : rn_op 17 62 = some (.putfield 86, 3, 1, 2, 0) := by decide +kernel
theorem op17_65 : rn_op 17 65 = some (.aload_n 0, 1, 0, 0, 0) := by decide +kernel
theorem op17_66 : rn_op 17 66 = some (.bipush 58, 2, 0, 0, 0) := by decide +kernel
theorem op17_68 : rn_op 17 68 = some (.invokevirtual 56, 3, 18, 2, 8) := by decide +kernel
theorem op17_71 : rn_op 17 71 = some (.ireturn, 1, 0, 0, 0) := by decide +kernel
def tp_readSize (n : Nat) (q1 : Nat) (m : rn_Mem) : Option (Int32 × rn_Mem) :=
  (tp_take n 110 m).bind fun (r2, m1) =>
  if r2 = 0 then
    some (0, m1)
  else
    (tp_digit n 2 4 m1).bind fun (r6, m5) =>
    if r6 < 2 then
      some (0, m5)
    else
      (tp_take n 116 m5).bind fun (r10, m9) =>
      if r10 = 0 then
        some (0, m9)
      else
        if ¬ r6 = 0 then
          (ja_min n 4 (12 / r6) m9).bind fun (r15, m14) =>
          (tp_digit n 1 r15 m14).bind fun (r18, m17) =>
          if r18 < 1 then
            some (0, m17)
          else
            (some (rm_i m17 q1 1 r6)).bind fun (m21 : rn_Mem) =>
            (some (rm_i m21 q1 2 r18)).bind fun (m22 : rn_Mem) =>
            (tp_take n 58 m22).bind fun (r24, m23) =>
            if r24 = 0 ∨ r24 = 1 then
              some (r24, m23)
            else none
        else none
set_option maxHeartbeats 4000000 in
set_option maxRecDepth 20000 in
theorem tp_readSize_ok (xs : List Int32) {d : Nat} (hd : 2 ≤ d) {n : Nat} {q1 : Nat} {m mO : rn_Mem} {rO : Int32} (hq1 : sA_Game q1) (h : tp_readSize n q1 m = some (rO, mO)) : rn_R xs d 17 0 (rn_ent 4 [.ref 1, .ref q1]) [] (rn_SH, m) (some (.int rO)) (rn_SH, mO) := by
  obtain ⟨d, rfl⟩ : ∃ e, d = e + 1 := ⟨d - 1, by omega⟩
  unfold tp_readSize at h
  show rn_R xs (d + 1) 17 0 [some (.ref 1), some (.ref q1), none, none] [] (rn_SH, m) (some (.int rO)) (rn_SH, mO)
  refine rx_p (L2 := [some (.ref 1), some (.ref q1), none, none]) (S2 := [.ref 1]) (pc2 := 1) op17_0 rfl rfl ?_
  refine rx_bp (v := 110) (pc2 := 3) op17_1 (by decide) rfl ?_
  obtain ⟨⟨r2, m1⟩, f3, h⟩ := rq_bind h
  try dsimp only at h
  refine ry_iv (p := 1) (vs := [.int 110]) (T := []) (pc2 := 6) op17_3 ms_18 (by decide) rfl rfl (Nat.le_of_ble_eq_true rfl) (Nat.le_of_ble_eq_true rfl) sp_1 (tp_take_ok xs (by omega)  f3) rfl ?_
  show rn_R _ _ _ _ _ [.int r2] _ _ _
  refine ry_if_ne (tgt := 11) (pc2 := 9) op17_6 (by decide) (by decide) rfl (fun b4 => ?_) (fun b4 => ?_)
  · have h := (if_pos b4).symm.trans h
    refine rx_ic (v := 0) (pc2 := 10) op17_9 (by decide) rfl ?_
    obtain ⟨rfl, rfl⟩ := rq_ret h
    exact ry_rz (x := 0) op17_10 ms_17 rfl (by decide)
  · have h := (if_neg b4).symm.trans h
    refine rx_p (L2 := [some (.ref 1), some (.ref q1), none, none]) (S2 := [.ref 1]) (pc2 := 12) op17_11 rfl rfl ?_
    refine rx_ic (v := 2) (pc2 := 13) op17_12 (by decide) rfl ?_
    refine rx_ic (v := 4) (pc2 := 14) op17_13 (by decide) rfl ?_
    obtain ⟨⟨r6, m5⟩, f7, h⟩ := rq_bind h
    try dsimp only at h
    refine ry_iv (p := 1) (vs := [.int 2, .int 4]) (T := []) (pc2 := 17) op17_14 ms_20 (by decide) rfl rfl (Nat.le_of_ble_eq_true rfl) (Nat.le_of_ble_eq_true rfl) sp_1 (tp_digit_ok xs (by omega)  f7) rfl ?_
    show rn_R _ _ _ _ _ [.int r6] _ _ _
    refine rx_s (L2 := [some (.ref 1), some (.ref q1), some (.int r6), none]) (pc2 := 18) op17_17 rfl rfl rfl ?_
    refine rx_p (L2 := [some (.ref 1), some (.ref q1), some (.int r6), none]) (S2 := [.int r6]) (pc2 := 19) op17_18 rfl rfl ?_
    refine rx_ic (v := 2) (pc2 := 20) op17_19 (by decide) rfl ?_
    refine ry_ic_lt (tgt := 32) (pc2 := 23) op17_20 (by decide) (by decide) rfl (fun b8 => ?_) (fun b8 => ?_)
    · have h := (if_pos b8).symm.trans h
      refine rx_ic (v := 0) (pc2 := 33) op17_32 (by decide) rfl ?_
      obtain ⟨rfl, rfl⟩ := rq_ret h
      exact ry_rz (x := 0) op17_33 ms_17 rfl (by decide)
    · have h := (if_neg b8).symm.trans h
      refine rx_p (L2 := [some (.ref 1), some (.ref q1), some (.int r6), none]) (S2 := [.ref 1]) (pc2 := 24) op17_23 rfl rfl ?_
      refine rx_bp (v := 116) (pc2 := 26) op17_24 (by decide) rfl ?_
      obtain ⟨⟨r10, m9⟩, f11, h⟩ := rq_bind h
      try dsimp only at h
      refine ry_iv (p := 1) (vs := [.int 116]) (T := []) (pc2 := 29) op17_26 ms_18 (by decide) rfl rfl (Nat.le_of_ble_eq_true rfl) (Nat.le_of_ble_eq_true rfl) sp_1 (tp_take_ok xs (by omega)  f11) rfl ?_
      show rn_R _ _ _ _ _ [.int r10] _ _ _
      refine ry_if_ne (tgt := 34) (pc2 := 32) op17_29 (by decide) (by decide) rfl (fun b12 => ?_) (fun b12 => ?_)
      · have h := (if_pos b12).symm.trans h
        refine rx_ic (v := 0) (pc2 := 33) op17_32 (by decide) rfl ?_
        obtain ⟨rfl, rfl⟩ := rq_ret h
        exact ry_rz (x := 0) op17_33 ms_17 rfl (by decide)
      · have h := (if_neg b12).symm.trans h
        refine rx_p (L2 := [some (.ref 1), some (.ref q1), some (.int r6), none]) (S2 := [.ref 1]) (pc2 := 35) op17_34 rfl rfl ?_
        refine rx_ic (v := 1) (pc2 := 36) op17_35 (by decide) rfl ?_
        refine rx_ic (v := 4) (pc2 := 37) op17_36 (by decide) rfl ?_
        refine rx_bp (v := 12) (pc2 := 39) op17_37 (by decide) rfl ?_
        refine rx_p (L2 := [some (.ref 1), some (.ref q1), some (.int r6), none]) (S2 := [.int r6, .int 12, .int 4, .int 1, .ref 1]) (pc2 := 40) op17_39 rfl rfl ?_
        obtain ⟨k13, h⟩ := rq_chk h
        refine rx_div (v := 12 / r6) (pc2 := 41) op17_40 k13 rfl rfl ?_
        obtain ⟨⟨r15, m14⟩, f16, h⟩ := rq_bind h
        try dsimp only at h
        refine ry_is (vs := [.int 4, .int (12 / r6)]) (T := [.int 1, .ref 1]) (pc2 := 44) op17_41 (by decide) ms_21 (by decide) rfl rfl (Nat.le_of_ble_eq_true rfl) (Nat.le_of_ble_eq_true rfl) (ja_min_ok xs (by omega)  f16) rfl ?_
        show rn_R _ _ _ _ _ [.int r15, .int 1, .ref 1] _ _ _
        obtain ⟨⟨r18, m17⟩, f19, h⟩ := rq_bind h
        try dsimp only at h
        refine ry_iv (p := 1) (vs := [.int 1, .int r15]) (T := []) (pc2 := 47) op17_44 ms_20 (by decide) rfl rfl (Nat.le_of_ble_eq_true rfl) (Nat.le_of_ble_eq_true rfl) sp_1 (tp_digit_ok xs (by omega)  f19) rfl ?_
        show rn_R _ _ _ _ _ [.int r18] _ _ _
        refine rx_s (L2 := [some (.ref 1), some (.ref q1), some (.int r6), some (.int r18)]) (pc2 := 48) op17_47 rfl rfl rfl ?_
        refine rx_p (L2 := [some (.ref 1), some (.ref q1), some (.int r6), some (.int r18)]) (S2 := [.int r18]) (pc2 := 49) op17_48 rfl rfl ?_
        refine rx_ic (v := 1) (pc2 := 50) op17_49 (by decide) rfl ?_
        refine ry_ic_ge (tgt := 55) (pc2 := 53) op17_50 (by decide) (by decide) rfl (fun b20 => ?_) (fun b20 => ?_)
        · have h := (if_pos b20).symm.trans h
          refine rx_ic (v := 0) (pc2 := 54) op17_53 (by decide) rfl ?_
          obtain ⟨rfl, rfl⟩ := rq_ret h
          exact ry_rz (x := 0) op17_54 ms_17 rfl (by decide)
        · have h := (if_neg b20).symm.trans h
          refine rx_p (L2 := [some (.ref 1), some (.ref q1), some (.int r6), some (.int r18)]) (S2 := [.ref q1]) (pc2 := 56) op17_55 rfl rfl ?_
          refine rx_p (L2 := [some (.ref 1), some (.ref q1), some (.int r6), some (.int r18)]) (S2 := [.int r6, .ref q1]) (pc2 := 57) op17_56 rfl rfl ?_
          obtain ⟨m21, em21, h⟩ := rq_bv h
          refine rx_pf (m2 := m21) (pc2 := 60) op17_57 hq1 rfl em21 rfl ?_
          refine rx_p (L2 := [some (.ref 1), some (.ref q1), some (.int r6), some (.int r18)]) (S2 := [.ref q1]) (pc2 := 61) op17_60 rfl rfl ?_
          refine rx_p (L2 := [some (.ref 1), some (.ref q1), some (.int r6), some (.int r18)]) (S2 := [.int r18, .ref q1]) (pc2 := 62) op17_61 rfl rfl ?_
          obtain ⟨m22, em22, h⟩ := rq_bv h
          refine rx_pf (m2 := m22) (pc2 := 65) op17_62 hq1 rfl em22 rfl ?_
          refine rx_p (L2 := [some (.ref 1), some (.ref q1), some (.int r6), some (.int r18)]) (S2 := [.ref 1]) (pc2 := 66) op17_65 rfl rfl ?_
          refine rx_bp (v := 58) (pc2 := 68) op17_66 (by decide) rfl ?_
          obtain ⟨⟨r24, m23⟩, f25, h⟩ := rq_bind h
          try dsimp only at h
          refine ry_iv (p := 1) (vs := [.int 58]) (T := []) (pc2 := 71) op17_68 ms_18 (by decide) rfl rfl (Nat.le_of_ble_eq_true rfl) (Nat.le_of_ble_eq_true rfl) sp_1 (tp_take_ok xs (by omega)  f25) rfl ?_
          show rn_R _ _ _ _ _ [.int r24] _ _ _
          obtain ⟨k26, h⟩ := rq_chk h
          obtain ⟨rfl, rfl⟩ := rq_ret h
          exact ry_rz (x := r24) op17_71 ms_17 rfl k26
/-! ga_cards -/
theorem op23_0 : rn_op 23 0 = some (.aload_n 0, 1, 0, 0, 0) := by decide +kernel
theorem op23_1 : rn_op 23 1 = some (.getfield 9, 3, 1, 1, 0) := by decide +kernel
theorem op23_4 : rn_op 23 4 = some (.aload_n 0, 1, 0, 0, 0) := by decide +kernel
theorem op23_5 : rn_op 23 5 = some (.getfield 15, 3, 1, 2, 0) := by decide +kernel
theorem op23_8 : rn_op 23 8 = some (.imul, 1, 0, 0, 0) := by decide +kernel
theorem op23_9 : rn_op 23 9 = some (.ireturn, 1, 0, 0, 0) := by decide +kernel
def ga_cards (n : Nat) (q0 : Nat) (m : rn_Mem) : Option (Int32 × rn_Mem) :=
  some ((m.1 q0 1) * (m.1 q0 2), m)
set_option maxHeartbeats 4000000 in
set_option maxRecDepth 20000 in
theorem ga_cards_ok (xs : List Int32) {d : Nat} (hd : 0 ≤ d) {n : Nat} {q0 : Nat} {m mO : rn_Mem} {rO : Int32} (hq0 : sA_Game q0) (h : ga_cards n q0 m = some (rO, mO)) : rn_R xs d 23 0 (rn_ent 1 [.ref q0]) [] (rn_SH, m) (some (.int rO)) (rn_SH, mO) := by
  unfold ga_cards at h
  show rn_R xs d 23 0 [some (.ref q0)] [] (rn_SH, m) (some (.int rO)) (rn_SH, mO)
  refine rx_p (L2 := [some (.ref q0)]) (S2 := [.ref q0]) (pc2 := 1) op23_0 rfl rfl ?_
  refine rx_gf (v := .int (m.1 q0 1)) (pc2 := 4) op23_1 hq0 rfl rfl rfl ?_
  refine rx_p (L2 := [some (.ref q0)]) (S2 := [.ref q0, .int (m.1 q0 1)]) (pc2 := 5) op23_4 rfl rfl ?_
  refine rx_gf (v := .int (m.1 q0 2)) (pc2 := 8) op23_5 hq0 rfl rfl rfl ?_
  refine rx_p (L2 := [some (.ref q0)]) (S2 := [.int ((m.1 q0 1) * (m.1 q0 2))]) (pc2 := 9) op23_8 rfl rfl ?_
  obtain ⟨rfl, rfl⟩ := rq_ret h
  exact ry_ri op23_9 ms_23 rfl
/-! tp_peekSuit -/
theorem op25_0 : rn_op 25 0 = some (.aload_n 0, 1, 0, 0, 0) := by decide +kernel
theorem op25_1 : rn_op 25 1 = some (.invokevirtual 71, 3, 19, 1, 8) := by decide +kernel
theorem op25_4 : rn_op 25 4 = some (.lookupswitch 52 #[(99, 50), (100, 48), (104, 46), (115, 44)], 44, 0, 0, 0) := by decide +kernel
theorem op25_48 : rn_op 25 48 = some (.iconst 0, 1, 0, 0, 0) := by decide +kernel
theorem op25_49 : rn_op 25 49 = some (.ireturn, 1, 0, 0, 0) := by decide +kernel
theorem op25_50 : rn_op 25 50 = some (.iconst 1, 1, 0, 0, 0) := by decide +kernel
theorem op25_51 : rn_op 25 51 = some (.ireturn, 1, 0, 0, 0) := by decide +kernel
theorem op25_52 : rn_op 25 52 = some (.iconst 2, 1, 0, 0, 0) := by decide +kernel
theorem op25_53 : rn_op 25 53 = some (.ireturn, 1, 0, 0, 0) := by decide +kernel
theorem op25_54 : rn_op 25 54 = some (.iconst 3, 1, 0, 0, 0) := by decide +kernel
theorem op25_55 : rn_op 25 55 = some (.ireturn, 1, 0, 0, 0) := by decide +kernel
theorem op25_56 : rn_op 25 56 = some (.iconst (-1), 1, 0, 0, 0) := by decide +kernel
theorem op25_57 : rn_op 25 57 = some (.ireturn, 1, 0, 0, 0) := by decide +kernel
def tp_peekSuit (n : Nat)  (m : rn_Mem) : Option (Int32 × rn_Mem) :=
  (tp_peek n m).bind fun (r2, m1) =>
  if r2 = 99 then
    some (3, m1)
  else if r2 = 100 then
    some (2, m1)
  else if r2 = 104 then
    some (1, m1)
  else if r2 = 115 then
    some (0, m1)
  else 
    some ((-1), m1)
set_option maxHeartbeats 4000000 in
set_option maxRecDepth 20000 in
theorem tp_peekSuit_ok (xs : List Int32) {d : Nat} (hd : 1 ≤ d) {n : Nat} {m mO : rn_Mem} {rO : Int32} (h : tp_peekSuit n  m = some (rO, mO)) : rn_R xs d 25 0 (rn_ent 1 [.ref 1]) [] (rn_SH, m) (some (.int rO)) (rn_SH, mO) := by
  obtain ⟨d, rfl⟩ : ∃ e, d = e + 1 := ⟨d - 1, by omega⟩
  unfold tp_peekSuit at h
  show rn_R xs (d + 1) 25 0 [some (.ref 1)] [] (rn_SH, m) (some (.int rO)) (rn_SH, mO)
  refine rx_p (L2 := [some (.ref 1)]) (S2 := [.ref 1]) (pc2 := 1) op25_0 rfl rfl ?_
  obtain ⟨⟨r2, m1⟩, f3, h⟩ := rq_bind h
  try dsimp only at h
  refine ry_iv (p := 1) (vs := []) (T := []) (pc2 := 4) op25_1 ms_19 (by decide) rfl rfl (Nat.le_of_ble_eq_true rfl) (Nat.le_of_ble_eq_true rfl) sp_1 (tp_peek_ok xs (by omega)  f3) rfl ?_
  show rn_R _ _ _ _ _ [.int r2] _ _ _
  by_cases b4 : r2 = 99
  · have h := (if_pos b4).symm.trans h
    refine ry_lk (tgt := 54) op25_4 (by decide) (by rw [show Int32.toInt r2 = 99 by rw [b4] <;> decide] <;> try decide) (by decide) (by decide) ?_
    refine rx_ic (v := 3) (pc2 := 55) op25_54 (by decide) rfl ?_
    obtain ⟨rfl, rfl⟩ := rq_ret h
    exact ry_ri op25_55 ms_25 rfl
  have h := (if_neg b4).symm.trans h
  by_cases b5 : r2 = 100
  · have h := (if_pos b5).symm.trans h
    refine ry_lk (tgt := 52) op25_4 (by decide) (by rw [show Int32.toInt r2 = 100 by rw [b5] <;> decide] <;> try decide) (by decide) (by decide) ?_
    refine rx_ic (v := 2) (pc2 := 53) op25_52 (by decide) rfl ?_
    obtain ⟨rfl, rfl⟩ := rq_ret h
    exact ry_ri op25_53 ms_25 rfl
  have h := (if_neg b5).symm.trans h
  by_cases b6 : r2 = 104
  · have h := (if_pos b6).symm.trans h
    refine ry_lk (tgt := 50) op25_4 (by decide) (by rw [show Int32.toInt r2 = 104 by rw [b6] <;> decide] <;> try decide) (by decide) (by decide) ?_
    refine rx_ic (v := 1) (pc2 := 51) op25_50 (by decide) rfl ?_
    obtain ⟨rfl, rfl⟩ := rq_ret h
    exact ry_ri op25_51 ms_25 rfl
  have h := (if_neg b6).symm.trans h
  by_cases b7 : r2 = 115
  · have h := (if_pos b7).symm.trans h
    refine ry_lk (tgt := 48) op25_4 (by decide) (by rw [show Int32.toInt r2 = 115 by rw [b7] <;> decide] <;> try decide) (by decide) (by decide) ?_
    refine rx_ic (v := 0) (pc2 := 49) op25_48 (by decide) rfl ?_
    obtain ⟨rfl, rfl⟩ := rq_ret h
    exact ry_ri op25_49 ms_25 rfl
  have h := (if_neg b7).symm.trans h
  have tb4 := rq_nt 99 (by decide) b4
  have tb5 := rq_nt 100 (by decide) b5
  have tb6 := rq_nt 104 (by decide) b6
  have tb7 := rq_nt 115 (by decide) b7
  refine ry_lk (tgt := 56) (off := 52) op25_4 (by decide) (by simp [Op.lookupswitch.offset, Ne.symm tb4, Ne.symm tb5, Ne.symm tb6, Ne.symm tb7]) (by decide) (by decide) ?_
  refine rx_ic (v := (-1)) (pc2 := 57) op25_56 (by decide) rfl ?_
  obtain ⟨rfl, rfl⟩ := rq_ret h
  exact ry_ri op25_57 ms_25 rfl
/-! tp_card -/
theorem op24_0 : rn_op 24 0 = some (.aload_n 0, 1, 0, 0, 0) := by decide +kernel
theorem op24_1 : rn_op 24 1 = some (.invokevirtual 74, 3, 25, 1, 8) := by decide +kernel
theorem op24_4 : rn_op 24 4 = some (.istore_n 2, 1, 0, 0, 0) := by decide +kernel
theorem op24_5 : rn_op 24 5 = some (.iload_n 2, 1, 0, 0, 0) := by decide +kernel
theorem op24_6 : rn_op 24 6 = some (.ifCond .ge 5, 3, 0, 0, 0) := by decide +kernel
theorem op24_9 : rn_op 24 9 = some (.iconst (-1), 1, 0, 0, 0) := by decide +kernel
theorem op24_10 : rn_op 24 10 = some (.ireturn, 1, 0, 0, 0) := by decide +kernel
theorem op24_11 : rn_op 24 11 = some (.aload_n 0, 1, 0, 0, 0) := by decide +kernel
theorem op24_12 : rn_op 24 12 = some (.dup, 1, 0, 0, 0) := by decide +kernel
theorem op24_13 : rn_op 24 13 = some (.getfield 19, 3, 8, 2, 0) := by decide +kernel
theorem op24_16 : rn_op 24 16 = some (.iconst 1, 1, 0, 0, 0) := by decide +kernel
theorem op24_17 : rn_op 24 17 = some (.iadd, 1, 0, 0, 0) := by decide +kernel
theorem op24_18 : rn_op 24 18 = some (.putfield 19, 3, 8, 2, 0) := by decide +kernel
theorem op24_21 : rn_op 24 21 = some (.aload_n 0, 1, 0, 0, 0) := by decide +kernel
theorem op24_22 : rn_op 24 22 = some (.invokevirtual 71, 3, 19, 1, 8) := by decide +kernel
theorem op24_25 : rn_op 24 25 = some (.bipush 48, 2, 0, 0, 0) := by decide +kernel
theorem op24_27 : rn_op 24 27 = some (.isub, 1, 0, 0, 0) := by decide +kernel
theorem op24_28 : rn_op 24 28 = some (.istore_n 3, 1, 0, 0, 0) := by decide +kernel
theorem op24_29 : rn_op 24 29 = some (.iload_n 3, 1, 0, 0, 0) := by decide +kernel
theorem op24_30 : rn_op 24 30 = some (.ifCond .lt 20, 3, 0, 0, 0) := by decide +kernel
theorem op24_33 : rn_op 24 33 = some (.iload_n 3, 1, 0, 0, 0) := by decide +kernel
theorem op24_34 : rn_op 24 34 = some (.iconst 3, 1, 0, 0, 0) := by decide +kernel
theorem op24_35 : rn_op 24 35 = some (.if_icmp .gt 15, 3, 0, 0, 0) := by decide +kernel
theorem op24_38 : rn_op 24 38 = some (.iload_n 1, 1, 0, 0, 0) := by decide +kernel
theorem op24_39 : rn_op 24 39 = some (.iconst 4, 1, 0, 0, 0) := by decide +kernel
theorem op24_40 : rn_op 24 40 = some (.iload_n 2, 1, 0, 0, 0) := by decide +kernel
theorem op24_41 : rn_op 24 41 = some (.imul, 1, 0, 0, 0) := by decide +kernel
theorem op24_42 : rn_op 24 42 = some (.iload_n 3, 1, 0, 0, 0) := by decide +kernel
theorem op24_43 : rn_op 24 43 = some (.iadd, 1, 0, 0, 0) := by decide +kernel
theorem op24_44 : rn_op 24 44 = some (.ishr, 1, 0, 0, 0) := by decide +kernel
theorem op24_45 : rn_op 24 45 = some (.iconst 1, 1, 0, 0, 0) := by decide +kernel
theorem op24_46 : rn_op 24 46 = some (.iand, 1, 0, 0, 0) := by decide +kernel
theorem op24_47 : rn_op 24 47 = some (.ifCond .eq 5, 3, 0, 0, 0) := by decide +kernel
theorem op24_50 : rn_op 24 50 = some (.iconst (-1), 1, 0, 0, 0) := by decide +kernel
theorem op24_51 : rn_op 24 51 = some (.ireturn, 1, 0, 0, 0) := by decide +kernel
theorem op24_52 : rn_op 24 52 = some (.aload_n 0, 1, 0, 0, 0) := by decide +kernel
theorem op24_53 : rn_op 24 53 = some (.dup, 1, 0, 0, 0) := by decide +kernel
theorem op24_54 : rn_op 24 54 = some (.getfield 19, 3, 8, 2, 0) := by decide +kernel
theorem op24_57 : rn_op 24 57 = some (.iconst 1, 1, 0, 0, 0) := by decide +kernel
theorem op24_58 : rn_op 24 58 = some (.iadd, 1, 0, 0, 0) := by decide +kernel
theorem op24_59 : rn_op 24 59 = some (.putfield 19, 3, 8, 2, 0) := by decide +kernel
theorem op24_62 : rn_op 24 62 = some (.iconst 4, 1, 0, 0, 0) := by decide +kernel
theorem op24_63 : rn_op 24 63 = some (.iload_n 2, 1, 0, 0, 0) := by decide +kernel
theorem op24_64 : rn_op 24 64 = some (.imul, 1, 0, 0, 0) := by decide +kernel
theorem op24_65 : rn_op 24 65 = some (.iload_n 3, 1, 0, 0, 0) := by decide +kernel
theorem op24_66 : rn_op 24 66 = some (.iadd, 1, 0, 0, 0) := by decide +kernel
theorem op24_67 : rn_op 24 67 = some (.ireturn, 1, 0, 0, 0) := by decide +kernel
def tp_card (n : Nat) (a1 : Int32) (m : rn_Mem) : Option (Int32 × rn_Mem) :=
  (tp_peekSuit n m).bind fun (r2, m1) =>
  if r2 < 0 then
    some ((-1), m1)
  else
    (some (rm_i m1 1 2 ((m1.1 1 2) + 1))).bind fun (m5 : rn_Mem) =>
    (tp_peek n m5).bind fun (r7, m6) =>
    (some (r7 - 48)).bind fun (x9 : Int32) =>
    if x9 < 0 then
      some ((-1), m6)
    else
      if 3 < x9 then
        some ((-1), m6)
      else
        if ((a1 >>> ((((4 : Int32) * r2) + x9) &&& 31)) &&& 1) = 0 then
          (some (rm_i m6 1 2 ((m6.1 1 2) + 1))).bind fun (m13 : rn_Mem) =>
          some (((4 : Int32) * r2) + x9, m13)
        else
          some ((-1), m6)
set_option maxHeartbeats 4000000 in
set_option maxRecDepth 20000 in
theorem tp_card_ok (xs : List Int32) {d : Nat} (hd : 2 ≤ d) {n : Nat} {a1 : Int32} {m mO : rn_Mem} {rO : Int32} (h : tp_card n a1 m = some (rO, mO)) : rn_R xs d 24 0 (rn_ent 4 [.ref 1, .int a1]) [] (rn_SH, m) (some (.int rO)) (rn_SH, mO) := by
  obtain ⟨d, rfl⟩ : ∃ e, d = e + 1 := ⟨d - 1, by omega⟩
  unfold tp_card at h
  show rn_R xs (d + 1) 24 0 [some (.ref 1), some (.int a1), none, none] [] (rn_SH, m) (some (.int rO)) (rn_SH, mO)
  refine rx_p (L2 := [some (.ref 1), some (.int a1), none, none]) (S2 := [.ref 1]) (pc2 := 1) op24_0 rfl rfl ?_
  obtain ⟨⟨r2, m1⟩, f3, h⟩ := rq_bind h
  try dsimp only at h
  refine ry_iv (p := 1) (vs := []) (T := []) (pc2 := 4) op24_1 ms_25 (by decide) rfl rfl (Nat.le_of_ble_eq_true rfl) (Nat.le_of_ble_eq_true rfl) sp_1 (tp_peekSuit_ok xs (by omega)  f3) rfl ?_
  show rn_R _ _ _ _ _ [.int r2] _ _ _
  refine rx_s (L2 := [some (.ref 1), some (.int a1), some (.int r2), none]) (pc2 := 5) op24_4 rfl rfl rfl ?_
  refine rx_p (L2 := [some (.ref 1), some (.int a1), some (.int r2), none]) (S2 := [.int r2]) (pc2 := 6) op24_5 rfl rfl ?_
  refine ry_if_ge (tgt := 11) (pc2 := 9) op24_6 (by decide) (by decide) rfl (fun b4 => ?_) (fun b4 => ?_)
  · have h := (if_pos b4).symm.trans h
    refine rx_ic (v := (-1)) (pc2 := 10) op24_9 (by decide) rfl ?_
    obtain ⟨rfl, rfl⟩ := rq_ret h
    exact ry_ri op24_10 ms_24 rfl
  · have h := (if_neg b4).symm.trans h
    refine rx_p (L2 := [some (.ref 1), some (.int a1), some (.int r2), none]) (S2 := [.ref 1]) (pc2 := 12) op24_11 rfl rfl ?_
    refine rx_p (L2 := [some (.ref 1), some (.int a1), some (.int r2), none]) (S2 := [.ref 1, .ref 1]) (pc2 := 13) op24_12 rfl rfl ?_
    refine rx_gf (v := .int (m1.1 1 2)) (pc2 := 16) op24_13 sp_1 rfl rfl rfl ?_
    refine rx_ic (v := 1) (pc2 := 17) op24_16 (by decide) rfl ?_
    refine rx_p (L2 := [some (.ref 1), some (.int a1), some (.int r2), none]) (S2 := [.int ((m1.1 1 2) + 1), .ref 1]) (pc2 := 18) op24_17 rfl rfl ?_
    obtain ⟨m5, em5, h⟩ := rq_bv h
    refine rx_pf (m2 := m5) (pc2 := 21) op24_18 sp_1 rfl em5 rfl ?_
    refine rx_p (L2 := [some (.ref 1), some (.int a1), some (.int r2), none]) (S2 := [.ref 1]) (pc2 := 22) op24_21 rfl rfl ?_
    obtain ⟨⟨r7, m6⟩, f8, h⟩ := rq_bind h
    try dsimp only at h
    refine ry_iv (p := 1) (vs := []) (T := []) (pc2 := 25) op24_22 ms_19 (by decide) rfl rfl (Nat.le_of_ble_eq_true rfl) (Nat.le_of_ble_eq_true rfl) sp_1 (tp_peek_ok xs (by omega)  f8) rfl ?_
    show rn_R _ _ _ _ _ [.int r7] _ _ _
    refine rx_bp (v := 48) (pc2 := 27) op24_25 (by decide) rfl ?_
    refine rx_p (L2 := [some (.ref 1), some (.int a1), some (.int r2), none]) (S2 := [.int (r7 - 48)]) (pc2 := 28) op24_27 rfl rfl ?_
    obtain ⟨x9, ex9, h⟩ := rq_bv h
    refine rx_s (v := x9) (L2 := [some (.ref 1), some (.int a1), some (.int r2), some (.int x9)]) (pc2 := 29) op24_28 ex9 rfl rfl ?_
    refine rx_p (L2 := [some (.ref 1), some (.int a1), some (.int r2), some (.int x9)]) (S2 := [.int x9]) (pc2 := 30) op24_29 rfl rfl ?_
    refine ry_if_lt (tgt := 50) (pc2 := 33) op24_30 (by decide) (by decide) rfl (fun b10 => ?_) (fun b10 => ?_)
    · have h := (if_pos b10).symm.trans h
      refine rx_ic (v := (-1)) (pc2 := 51) op24_50 (by decide) rfl ?_
      obtain ⟨rfl, rfl⟩ := rq_ret h
      exact ry_ri op24_51 ms_24 rfl
    · have h := (if_neg b10).symm.trans h
      refine rx_p (L2 := [some (.ref 1), some (.int a1), some (.int r2), some (.int x9)]) (S2 := [.int x9]) (pc2 := 34) op24_33 rfl rfl ?_
      refine rx_ic (v := 3) (pc2 := 35) op24_34 (by decide) rfl ?_
      refine ry_ic_gt (tgt := 50) (pc2 := 38) op24_35 (by decide) (by decide) rfl (fun b11 => ?_) (fun b11 => ?_)
      · have h := (if_pos b11).symm.trans h
        refine rx_ic (v := (-1)) (pc2 := 51) op24_50 (by decide) rfl ?_
        obtain ⟨rfl, rfl⟩ := rq_ret h
        exact ry_ri op24_51 ms_24 rfl
      · have h := (if_neg b11).symm.trans h
        refine rx_p (L2 := [some (.ref 1), some (.int a1), some (.int r2), some (.int x9)]) (S2 := [.int a1]) (pc2 := 39) op24_38 rfl rfl ?_
        refine rx_ic (v := 4) (pc2 := 40) op24_39 (by decide) rfl ?_
        refine rx_p (L2 := [some (.ref 1), some (.int a1), some (.int r2), some (.int x9)]) (S2 := [.int r2, .int 4, .int a1]) (pc2 := 41) op24_40 rfl rfl ?_
        refine rx_p (L2 := [some (.ref 1), some (.int a1), some (.int r2), some (.int x9)]) (S2 := [.int ((4 : Int32) * r2), .int a1]) (pc2 := 42) op24_41 rfl rfl ?_
        refine rx_p (L2 := [some (.ref 1), some (.int a1), some (.int r2), some (.int x9)]) (S2 := [.int x9, .int ((4 : Int32) * r2), .int a1]) (pc2 := 43) op24_42 rfl rfl ?_
        refine rx_p (L2 := [some (.ref 1), some (.int a1), some (.int r2), some (.int x9)]) (S2 := [.int (((4 : Int32) * r2) + x9), .int a1]) (pc2 := 44) op24_43 rfl rfl ?_
        refine rx_p (L2 := [some (.ref 1), some (.int a1), some (.int r2), some (.int x9)]) (S2 := [.int (a1 >>> ((((4 : Int32) * r2) + x9) &&& 31))]) (pc2 := 45) op24_44 rfl rfl ?_
        refine rx_ic (v := 1) (pc2 := 46) op24_45 (by decide) rfl ?_
        refine rx_p (L2 := [some (.ref 1), some (.int a1), some (.int r2), some (.int x9)]) (S2 := [.int ((a1 >>> ((((4 : Int32) * r2) + x9) &&& 31)) &&& 1)]) (pc2 := 47) op24_46 rfl rfl ?_
        refine ry_if_eq (tgt := 52) (pc2 := 50) op24_47 (by decide) (by decide) rfl (fun b12 => ?_) (fun b12 => ?_)
        · have h := (if_pos b12).symm.trans h
          refine rx_p (L2 := [some (.ref 1), some (.int a1), some (.int r2), some (.int x9)]) (S2 := [.ref 1]) (pc2 := 53) op24_52 rfl rfl ?_
          refine rx_p (L2 := [some (.ref 1), some (.int a1), some (.int r2), some (.int x9)]) (S2 := [.ref 1, .ref 1]) (pc2 := 54) op24_53 rfl rfl ?_
          refine rx_gf (v := .int (m6.1 1 2)) (pc2 := 57) op24_54 sp_1 rfl rfl rfl ?_
          refine rx_ic (v := 1) (pc2 := 58) op24_57 (by decide) rfl ?_
          refine rx_p (L2 := [some (.ref 1), some (.int a1), some (.int r2), some (.int x9)]) (S2 := [.int ((m6.1 1 2) + 1), .ref 1]) (pc2 := 59) op24_58 rfl rfl ?_
          obtain ⟨m13, em13, h⟩ := rq_bv h
          refine rx_pf (m2 := m13) (pc2 := 62) op24_59 sp_1 rfl em13 rfl ?_
          refine rx_ic (v := 4) (pc2 := 63) op24_62 (by decide) rfl ?_
          refine rx_p (L2 := [some (.ref 1), some (.int a1), some (.int r2), some (.int x9)]) (S2 := [.int r2, .int 4]) (pc2 := 64) op24_63 rfl rfl ?_
          refine rx_p (L2 := [some (.ref 1), some (.int a1), some (.int r2), some (.int x9)]) (S2 := [.int ((4 : Int32) * r2)]) (pc2 := 65) op24_64 rfl rfl ?_
          refine rx_p (L2 := [some (.ref 1), some (.int a1), some (.int r2), some (.int x9)]) (S2 := [.int x9, .int ((4 : Int32) * r2)]) (pc2 := 66) op24_65 rfl rfl ?_
          refine rx_p (L2 := [some (.ref 1), some (.int a1), some (.int r2), some (.int x9)]) (S2 := [.int (((4 : Int32) * r2) + x9)]) (pc2 := 67) op24_66 rfl rfl ?_
          obtain ⟨rfl, rfl⟩ := rq_ret h
          exact ry_ri op24_67 ms_24 rfl
        · have h := (if_neg b12).symm.trans h
          refine rx_ic (v := (-1)) (pc2 := 51) op24_50 (by decide) rfl ?_
          obtain ⟨rfl, rfl⟩ := rq_ret h
          exact ry_ri op24_51 ms_24 rfl
/-! tp_readPack -/
theorem op22_0 : rn_op 22 0 = some (.aload_n 1, 1, 0, 0, 0) := by decide +kernel
theorem op22_1 : rn_op 22 1 = some (.iconst 0, 1, 0, 0, 0) := by decide +kernel
theorem op22_2 : rn_op 22 2 = some (.putfield 89, 3, 1, 3, 0) := by decide +kernel
theorem op22_5 : rn_op 22 5 = some (.iconst 0, 1, 0, 0, 0) := by decide +kernel
theorem op22_6 : rn_op 22 6 = some (.istore_n 2, 1, 0, 0, 0) := by decide +kernel
theorem op22_7 : rn_op 22 7 = some (.iload_n 2, 1, 0, 0, 0) := by decide +kernel
theorem op22_8 : rn_op 22 8 = some (.aload_n 1, 1, 0, 0, 0) := by decide +kernel
theorem op22_9 : rn_op 22 9 = some (.invokevirtual 67, 3, 23, 1, 1) := by decide +kernel
theorem op22_12 : rn_op 22 12 = some (.if_icmp .ge 36, 3, 0, 0, 0) := by decide +kernel
theorem op22_15 : rn_op 22 15 = some (.aload_n 0, 1, 0, 0, 0) := by decide +kernel
theorem op22_16 : rn_op 22 16 = some (.aload_n 1, 1, 0, 0, 0) := by decide +kernel
theorem op22_17 : rn_op 22 17 = some (.getfield 89, 3, 1, 3, 0) := by decide +kernel
theorem op22_20 : rn_op 22 20 = some (.invokevirtual 92, 3, 24, 2, 8) := by decide +kernel
theorem op22_23 : rn_op 22 23 = some (.istore_n 3, 1, 0, 0, 0) := by decide +kernel
theorem op22_24 : rn_op 22 24 = some (.iload_n 3, 1, 0, 0, 0) := by decide +kernel
theorem op22_25 : rn_op 22 25 = some (.ifCond .ge 5, 3, 0, 0, 0) := by decide +kernel
theorem op22_28 : rn_op 22 28 = some (.iconst 0, 1, 0, 0, 0) := by decide +kernel
theorem op22_29 : rn_op 22 29 = some (.ireturn, 1, 0, 0, 0) := by decide +kernel
theorem op22_30 : rn_op 22 30 = some (.aload_n 1, 1, 0, 0, 0) := by decide +kernel
theorem op22_31 : rn_op 22 31 = some (.dup, 1, 0, 0, 0) := by decide +kernel
theorem op22_32 : rn_op 22 32 = some (.getfield 89, 3, 1, 3, 0) := by decide +kernel
theorem op22_35 : rn_op 22 35 = some (.iconst 1, 1, 0, 0, 0) := by decide +kernel
theorem op22_36 : rn_op 22 36 = some (.iload_n 3, 1, 0, 0, 0) := by decide +kernel
theorem op22_37 : rn_op 22 37 = some (.ishl, 1, 0, 0, 0) := by decide +kernel
theorem op22_38 : rn_op 22 38 = some (.ior, 1, 0, 0, 0) := by decide +kernel
theorem op22_39 : rn_op 22 39 = some (.putfield 89, 3, 1, 3, 0) := by decide +kernel
theorem op22_42 : rn_op 22 42 = some (.iinc 2 1, 3, 0, 0, 0) := by decide +kernel
theorem op22_45 : rn_op 22 45 = some (.goto (-38), 3, 0, 0, 0) := by decide +kernel
theorem op22_48 : rn_op 22 48 = some (.iconst 1, 1, 0, 0, 0) := by decide +kernel
theorem op22_49 : rn_op 22 49 = some (.ireturn, 1, 0, 0, 0) := by decide +kernel
def tp_readPack_l7 (q1 : Nat) : Nat → Int32 → rn_Mem → Option ((Int32 × rn_Mem) ⊕ (rn_Mem))
  | 0, _, _ => none
  | n + 1, a2, m =>
    (ga_cards n q1 m).bind fun (r3, m2) =>
    if a2 < r3 then
      (tp_card n (m2.1 q1 3) m2).bind fun (r7, m6) =>
      if r7 < 0 then
        some (.inl (0, m6))
      else
        (some (rm_i m6 q1 3 ((m6.1 q1 3) ||| ((1 : Int32) <<< (r7 &&& 31))))).bind fun (m10 : rn_Mem) =>
        (some (a2 + 1)).bind fun (x11 : Int32) =>
        tp_readPack_l7 q1 n x11 m10
    else
      some (.inr m2)
def tp_readPack (n : Nat) (q1 : Nat) (m : rn_Mem) : Option (Int32 × rn_Mem) :=
  (some (rm_i m q1 3 0)).bind fun (m1 : rn_Mem) =>
  (tp_readPack_l7 q1 n 0 m1).bind fun q => match q with
  | .inl o => some o
  | .inr m12 =>
  some (1, m12)
set_option maxHeartbeats 4000000 in
set_option maxRecDepth 20000 in
theorem tp_readPack_l7_ok (xs : List Int32) {d : Nat} (hd : 3 ≤ d + 1) {q1 : Nat} {r : Option Value} {τ : rn_H} {out : (Int32 × rn_Mem) ⊕ (rn_Mem)} (hl : ∀ (rO : Int32) (mO : rn_Mem), out = .inl (rO, mO) → r = (some (.int rO)) ∧ τ = (rn_SH, mO)) (hr : ∀ (mO : rn_Mem), out = .inr mO → ∀ (o0 o1 o2 o3 : Option Value), rn_R xs (d + 1) 22 48 [o0, o1, o2, o3] [] (rn_SH, mO) r τ) : ∀ (n : Nat) (a2 : Int32) (o3 : Option Value) (m : rn_Mem), sA_Game q1 → tp_readPack_l7 q1 n a2 m = some out → rn_R xs (d + 1) 22 7 [some (.ref 1), some (.ref q1), some (.int a2), o3] [] (rn_SH, m) r τ := by
  intro n
  induction n with
  | zero =>
    intro _ _ _ _ h
    cases h
  | succ n ih =>
    intro a2 o3 m hq1 h
    unfold tp_readPack_l7 at h
    try dsimp only at h
    refine rx_p (L2 := [some (.ref 1), some (.ref q1), some (.int a2), o3]) (S2 := [.int a2]) (pc2 := 8) op22_7 rfl rfl ?_
    refine rx_p (L2 := [some (.ref 1), some (.ref q1), some (.int a2), o3]) (S2 := [.ref q1, .int a2]) (pc2 := 9) op22_8 rfl rfl ?_
    obtain ⟨⟨r3, m2⟩, f4, h⟩ := rq_bind h
    try dsimp only at h
    refine ry_iv (p := q1) (vs := []) (T := [.int a2]) (pc2 := 12) op22_9 ms_23 (by decide) rfl rfl (Nat.le_of_ble_eq_true rfl) (Nat.le_of_ble_eq_true rfl) hq1 (ga_cards_ok xs (by omega) hq1 f4) rfl ?_
    show rn_R _ _ _ _ _ [.int r3, .int a2] _ _ _
    refine ry_ic_ge (tgt := 48) (pc2 := 15) op22_12 (by decide) (by decide) rfl (fun b5 => ?_) (fun b5 => ?_)
    · have h := (if_pos b5).symm.trans h
      refine rx_p (L2 := [some (.ref 1), some (.ref q1), some (.int a2), o3]) (S2 := [.ref 1]) (pc2 := 16) op22_15 rfl rfl ?_
      refine rx_p (L2 := [some (.ref 1), some (.ref q1), some (.int a2), o3]) (S2 := [.ref q1, .ref 1]) (pc2 := 17) op22_16 rfl rfl ?_
      refine rx_gf (v := .int (m2.1 q1 3)) (pc2 := 20) op22_17 hq1 rfl rfl rfl ?_
      obtain ⟨⟨r7, m6⟩, f8, h⟩ := rq_bind h
      try dsimp only at h
      refine ry_iv (p := 1) (vs := [.int (m2.1 q1 3)]) (T := []) (pc2 := 23) op22_20 ms_24 (by decide) rfl rfl (Nat.le_of_ble_eq_true rfl) (Nat.le_of_ble_eq_true rfl) sp_1 (tp_card_ok xs (by omega)  f8) rfl ?_
      show rn_R _ _ _ _ _ [.int r7] _ _ _
      refine rx_s (L2 := [some (.ref 1), some (.ref q1), some (.int a2), some (.int r7)]) (pc2 := 24) op22_23 rfl rfl rfl ?_
      refine rx_p (L2 := [some (.ref 1), some (.ref q1), some (.int a2), some (.int r7)]) (S2 := [.int r7]) (pc2 := 25) op22_24 rfl rfl ?_
      refine ry_if_ge (tgt := 30) (pc2 := 28) op22_25 (by decide) (by decide) rfl (fun b9 => ?_) (fun b9 => ?_)
      · have h := (if_pos b9).symm.trans h
        refine rx_ic (v := 0) (pc2 := 29) op22_28 (by decide) rfl ?_
        cases h
        obtain ⟨rfl, rfl⟩ := hl _ _ rfl
        exact ry_rz (x := 0) op22_29 ms_22 rfl (by decide)
      · have h := (if_neg b9).symm.trans h
        refine rx_p (L2 := [some (.ref 1), some (.ref q1), some (.int a2), some (.int r7)]) (S2 := [.ref q1]) (pc2 := 31) op22_30 rfl rfl ?_
        refine rx_p (L2 := [some (.ref 1), some (.ref q1), some (.int a2), some (.int r7)]) (S2 := [.ref q1, .ref q1]) (pc2 := 32) op22_31 rfl rfl ?_
        refine rx_gf (v := .int (m6.1 q1 3)) (pc2 := 35) op22_32 hq1 rfl rfl rfl ?_
        refine rx_ic (v := 1) (pc2 := 36) op22_35 (by decide) rfl ?_
        refine rx_p (L2 := [some (.ref 1), some (.ref q1), some (.int a2), some (.int r7)]) (S2 := [.int r7, .int 1, .int (m6.1 q1 3), .ref q1]) (pc2 := 37) op22_36 rfl rfl ?_
        refine rx_p (L2 := [some (.ref 1), some (.ref q1), some (.int a2), some (.int r7)]) (S2 := [.int ((1 : Int32) <<< (r7 &&& 31)), .int (m6.1 q1 3), .ref q1]) (pc2 := 38) op22_37 rfl rfl ?_
        refine rx_p (L2 := [some (.ref 1), some (.ref q1), some (.int a2), some (.int r7)]) (S2 := [.int ((m6.1 q1 3) ||| ((1 : Int32) <<< (r7 &&& 31))), .ref q1]) (pc2 := 39) op22_38 rfl rfl ?_
        obtain ⟨m10, em10, h⟩ := rq_bv h
        refine rx_pf (m2 := m10) (pc2 := 42) op22_39 hq1 rfl em10 rfl ?_
        obtain ⟨x11, ex11, h⟩ := rq_bv h
        refine rx_inc (w := 1) (v := x11) (L2 := [some (.ref 1), some (.ref q1), some (.int x11), some (.int r7)]) (pc2 := 45) op22_42 rfl (by decide) ex11 rfl rfl ?_
        refine ry_go (tgt := 7) op22_45 (by decide) (by decide) ?_
        exact ih _ _ _ hq1 h
    · have h := (if_neg b5).symm.trans h
      cases h
      exact hr _ rfl _ _ _ _
set_option maxHeartbeats 4000000 in
set_option maxRecDepth 20000 in
theorem tp_readPack_ok (xs : List Int32) {d : Nat} (hd : 3 ≤ d) {n : Nat} {q1 : Nat} {m mO : rn_Mem} {rO : Int32} (hq1 : sA_Game q1) (h : tp_readPack n q1 m = some (rO, mO)) : rn_R xs d 22 0 (rn_ent 4 [.ref 1, .ref q1]) [] (rn_SH, m) (some (.int rO)) (rn_SH, mO) := by
  obtain ⟨d, rfl⟩ : ∃ e, d = e + 1 := ⟨d - 1, by omega⟩
  unfold tp_readPack at h
  show rn_R xs (d + 1) 22 0 [some (.ref 1), some (.ref q1), none, none] [] (rn_SH, m) (some (.int rO)) (rn_SH, mO)
  refine rx_p (L2 := [some (.ref 1), some (.ref q1), none, none]) (S2 := [.ref q1]) (pc2 := 1) op22_0 rfl rfl ?_
  refine rx_ic (v := 0) (pc2 := 2) op22_1 (by decide) rfl ?_
  obtain ⟨m1, em1, h⟩ := rq_bv h
  refine rx_pf (m2 := m1) (pc2 := 5) op22_2 hq1 rfl em1 rfl ?_
  refine rx_ic (v := 0) (pc2 := 6) op22_5 (by decide) rfl ?_
  refine rx_s (L2 := [some (.ref 1), some (.ref q1), some (.int 0), none]) (pc2 := 7) op22_6 rfl rfl rfl ?_
  obtain ⟨wf17, f17, h⟩ := rq_bind h
  refine tp_readPack_l7_ok xs hd (fun v0 m0 eq => ?_) (fun m12 eq => ?_) _ _ _ _ hq1 f17
  · subst eq
    try dsimp only at h
    cases h
    exact ⟨rfl, rfl⟩
  · subst eq
    try dsimp only at h
    intro o13 o14 o15 o16
    refine rx_ic (v := 1) (pc2 := 49) op22_48 (by decide) rfl ?_
    obtain ⟨rfl, rfl⟩ := rq_ret h
    exact ry_rz (x := 1) op22_49 ms_22 rfl (by decide)
/-! tp_readTrump -/
theorem op26_0 : rn_op 26 0 = some (.aload_n 1, 1, 0, 0, 0) := by decide +kernel
theorem op26_1 : rn_op 26 1 = some (.iconst (-1), 1, 0, 0, 0) := by decide +kernel
theorem op26_2 : rn_op 26 2 = some (.putfield 96, 3, 1, 4, 0) := by decide +kernel
theorem op26_5 : rn_op 26 5 = some (.aload_n 0, 1, 0, 0, 0) := by decide +kernel
theorem op26_6 : rn_op 26 6 = some (.bipush 45, 2, 0, 0, 0) := by decide +kernel
theorem op26_8 : rn_op 26 8 = some (.invokevirtual 56, 3, 18, 2, 8) := by decide +kernel
theorem op26_11 : rn_op 26 11 = some (.ifCond .eq 5, 3, 0, 0, 0) := by decide +kernel
theorem op26_14 : rn_op 26 14 = some (.iconst 1, 1, 0, 0, 0) := by decide +kernel
theorem op26_15 : rn_op 26 15 = some (.ireturn, 1, 0, 0, 0) := by decide +kernel
theorem op26_16 : rn_op 26 16 = some (.aload_n 0, 1, 0, 0, 0) := by decide +kernel
theorem op26_17 : rn_op 26 17 = some (.bipush 43, 2, 0, 0, 0) := by decide +kernel
theorem op26_19 : rn_op 26 19 = some (.invokevirtual 56, 3, 18, 2, 8) := by decide +kernel
theorem op26_22 : rn_op 26 22 = some (.ifCond .ne 5, 3, 0, 0, 0) := by decide +kernel
theorem op26_25 : rn_op 26 25 = some (.iconst 0, 1, 0, 0, 0) := by decide +kernel
theorem op26_26 : rn_op 26 26 = some (.ireturn, 1, 0, 0, 0) := by decide +kernel
theorem op26_27 : rn_op 26 27 = some (.aload_n 1, 1, 0, 0, 0) := by decide +kernel
theorem op26_28 : rn_op 26 28 = some (.aload_n 0, 1, 0, 0, 0) := by decide +kernel
theorem op26_29 : rn_op 26 29 = some (.invokevirtual 74, 3, 25, 1, 8) := by decide +kernel
theorem op26_32 : rn_op 26 32 = some (.putfield 96, 3, 1, 4, 0) := by decide +kernel
theorem op26_35 : rn_op 26 35 = some (.aload_n 1, 1, 0, 0, 0) := by decide +kernel
theorem op26_36 : rn_op 26 36 = some (.getfield 96, 3, 1, 4, 0) := by decide +kernel
theorem op26_39 : rn_op 26 39 = some (.ifCond .ge 5, 3, 0, 0, 0) := by decide +kernel
theorem op26_42 : rn_op 26 42 = some (.iconst 0, 1, 0, 0, 0) := by decide +kernel
theorem op26_43 : rn_op 26 43 = some (.ireturn, 1, 0, 0, 0) := by decide +kernel
theorem op26_44 : rn_op 26 44 = some (.aload_n 0, 1, 0, 0, 0) := by decide +kernel
theorem op26_45 : rn_op 26 45 = some (.dup, 1, 0, 0, 0) := by decide +kernel
theorem op26_46 : rn_op 26 46 = some (.getfield 19, 3, 8, 2, 0) := by decide +kernel
theorem op26_49 : rn_op 26 49 = some (.iconst 1, 1, 0, 0, 0) := by decide +kernel
theorem op26_50 : rn_op 26 50 = some (.iadd, 1, 0, 0, 0) := by decide +kernel
theorem op26_51 : rn_op 26 51 = some (.putfield 19, 3, 8, 2, 0) := by decide +kernel
theorem op26_54 : rn_op 26 54 = some (.iconst 1, 1, 0, 0, 0) := by decide +kernel
theorem op26_55 : rn_op 26 55 = some (.ireturn, 1, 0, 0, 0) := by decide +kernel
def tp_readTrump (n : Nat) (q1 : Nat) (m : rn_Mem) : Option (Int32 × rn_Mem) :=
  (some (rm_i m q1 4 (-1))).bind fun (m1 : rn_Mem) =>
  (tp_take n 45 m1).bind fun (r3, m2) =>
  if r3 = 0 then
    (tp_take n 43 m2).bind fun (r7, m6) =>
    if r7 = 0 then
      some (0, m6)
    else
      (tp_peekSuit n m6).bind fun (r11, m10) =>
      (some (rm_i m10 q1 4 r11)).bind fun (m13 : rn_Mem) =>
      if (m13.1 q1 4) < 0 then
        some (0, m13)
      else
        (some (rm_i m13 1 2 ((m13.1 1 2) + 1))).bind fun (m15 : rn_Mem) =>
        some (1, m15)
  else
    some (1, m2)
set_option maxHeartbeats 4000000 in
set_option maxRecDepth 20000 in
theorem tp_readTrump_ok (xs : List Int32) {d : Nat} (hd : 2 ≤ d) {n : Nat} {q1 : Nat} {m mO : rn_Mem} {rO : Int32} (hq1 : sA_Game q1) (h : tp_readTrump n q1 m = some (rO, mO)) : rn_R xs d 26 0 (rn_ent 2 [.ref 1, .ref q1]) [] (rn_SH, m) (some (.int rO)) (rn_SH, mO) := by
  obtain ⟨d, rfl⟩ : ∃ e, d = e + 1 := ⟨d - 1, by omega⟩
  unfold tp_readTrump at h
  show rn_R xs (d + 1) 26 0 [some (.ref 1), some (.ref q1)] [] (rn_SH, m) (some (.int rO)) (rn_SH, mO)
  refine rx_p (L2 := [some (.ref 1), some (.ref q1)]) (S2 := [.ref q1]) (pc2 := 1) op26_0 rfl rfl ?_
  refine rx_ic (v := (-1)) (pc2 := 2) op26_1 (by decide) rfl ?_
  obtain ⟨m1, em1, h⟩ := rq_bv h
  refine rx_pf (m2 := m1) (pc2 := 5) op26_2 hq1 rfl em1 rfl ?_
  refine rx_p (L2 := [some (.ref 1), some (.ref q1)]) (S2 := [.ref 1]) (pc2 := 6) op26_5 rfl rfl ?_
  refine rx_bp (v := 45) (pc2 := 8) op26_6 (by decide) rfl ?_
  obtain ⟨⟨r3, m2⟩, f4, h⟩ := rq_bind h
  try dsimp only at h
  refine ry_iv (p := 1) (vs := [.int 45]) (T := []) (pc2 := 11) op26_8 ms_18 (by decide) rfl rfl (Nat.le_of_ble_eq_true rfl) (Nat.le_of_ble_eq_true rfl) sp_1 (tp_take_ok xs (by omega)  f4) rfl ?_
  show rn_R _ _ _ _ _ [.int r3] _ _ _
  refine ry_if_eq (tgt := 16) (pc2 := 14) op26_11 (by decide) (by decide) rfl (fun b5 => ?_) (fun b5 => ?_)
  · have h := (if_pos b5).symm.trans h
    refine rx_p (L2 := [some (.ref 1), some (.ref q1)]) (S2 := [.ref 1]) (pc2 := 17) op26_16 rfl rfl ?_
    refine rx_bp (v := 43) (pc2 := 19) op26_17 (by decide) rfl ?_
    obtain ⟨⟨r7, m6⟩, f8, h⟩ := rq_bind h
    try dsimp only at h
    refine ry_iv (p := 1) (vs := [.int 43]) (T := []) (pc2 := 22) op26_19 ms_18 (by decide) rfl rfl (Nat.le_of_ble_eq_true rfl) (Nat.le_of_ble_eq_true rfl) sp_1 (tp_take_ok xs (by omega)  f8) rfl ?_
    show rn_R _ _ _ _ _ [.int r7] _ _ _
    refine ry_if_ne (tgt := 27) (pc2 := 25) op26_22 (by decide) (by decide) rfl (fun b9 => ?_) (fun b9 => ?_)
    · have h := (if_pos b9).symm.trans h
      refine rx_ic (v := 0) (pc2 := 26) op26_25 (by decide) rfl ?_
      obtain ⟨rfl, rfl⟩ := rq_ret h
      exact ry_rz (x := 0) op26_26 ms_26 rfl (by decide)
    · have h := (if_neg b9).symm.trans h
      refine rx_p (L2 := [some (.ref 1), some (.ref q1)]) (S2 := [.ref q1]) (pc2 := 28) op26_27 rfl rfl ?_
      refine rx_p (L2 := [some (.ref 1), some (.ref q1)]) (S2 := [.ref 1, .ref q1]) (pc2 := 29) op26_28 rfl rfl ?_
      obtain ⟨⟨r11, m10⟩, f12, h⟩ := rq_bind h
      try dsimp only at h
      refine ry_iv (p := 1) (vs := []) (T := [.ref q1]) (pc2 := 32) op26_29 ms_25 (by decide) rfl rfl (Nat.le_of_ble_eq_true rfl) (Nat.le_of_ble_eq_true rfl) sp_1 (tp_peekSuit_ok xs (by omega)  f12) rfl ?_
      show rn_R _ _ _ _ _ [.int r11, .ref q1] _ _ _
      obtain ⟨m13, em13, h⟩ := rq_bv h
      refine rx_pf (m2 := m13) (pc2 := 35) op26_32 hq1 rfl em13 rfl ?_
      refine rx_p (L2 := [some (.ref 1), some (.ref q1)]) (S2 := [.ref q1]) (pc2 := 36) op26_35 rfl rfl ?_
      refine rx_gf (v := .int (m13.1 q1 4)) (pc2 := 39) op26_36 hq1 rfl rfl rfl ?_
      refine ry_if_ge (tgt := 44) (pc2 := 42) op26_39 (by decide) (by decide) rfl (fun b14 => ?_) (fun b14 => ?_)
      · have h := (if_pos b14).symm.trans h
        refine rx_ic (v := 0) (pc2 := 43) op26_42 (by decide) rfl ?_
        obtain ⟨rfl, rfl⟩ := rq_ret h
        exact ry_rz (x := 0) op26_43 ms_26 rfl (by decide)
      · have h := (if_neg b14).symm.trans h
        refine rx_p (L2 := [some (.ref 1), some (.ref q1)]) (S2 := [.ref 1]) (pc2 := 45) op26_44 rfl rfl ?_
        refine rx_p (L2 := [some (.ref 1), some (.ref q1)]) (S2 := [.ref 1, .ref 1]) (pc2 := 46) op26_45 rfl rfl ?_
        refine rx_gf (v := .int (m13.1 1 2)) (pc2 := 49) op26_46 sp_1 rfl rfl rfl ?_
        refine rx_ic (v := 1) (pc2 := 50) op26_49 (by decide) rfl ?_
        refine rx_p (L2 := [some (.ref 1), some (.ref q1)]) (S2 := [.int ((m13.1 1 2) + 1), .ref 1]) (pc2 := 51) op26_50 rfl rfl ?_
        obtain ⟨m15, em15, h⟩ := rq_bv h
        refine rx_pf (m2 := m15) (pc2 := 54) op26_51 sp_1 rfl em15 rfl ?_
        refine rx_ic (v := 1) (pc2 := 55) op26_54 (by decide) rfl ?_
        obtain ⟨rfl, rfl⟩ := rq_ret h
        exact ry_rz (x := 1) op26_55 ms_26 rfl (by decide)
  · have h := (if_neg b5).symm.trans h
    refine rx_ic (v := 1) (pc2 := 15) op26_14 (by decide) rfl ?_
    obtain ⟨rfl, rfl⟩ := rq_ret h
    exact ry_rz (x := 1) op26_15 ms_26 rfl (by decide)
/-! tp_readLaws -/
theorem op27_0 : rn_op 27 0 = some (.aload_n 1, 1, 0, 0, 0) := by decide +kernel
theorem op27_1 : rn_op 27 1 = some (.aload_n 0, 1, 0, 0, 0) := by decide +kernel
theorem op27_2 : rn_op 27 2 = some (.bipush 102, 2, 0, 0, 0) := by decide +kernel
theorem op27_4 : rn_op 27 4 = some (.invokevirtual 56, 3, 18, 2, 8) := by decide +kernel
theorem op27_7 : rn_op 27 7 = some (.ifCond .eq 12, 3, 0, 0, 0) := by decide +kernel
theorem op27_10 : rn_op 27 10 = some (.aload_n 0, 1, 0, 0, 0) := by decide +kernel
theorem op27_11 : rn_op 27 11 = some (.iconst 0, 1, 0, 0, 0) := by decide +kernel
theorem op27_12 : rn_op 27 12 = some (.iconst 2, 1, 0, 0, 0) := by decide +kernel
theorem op27_13 : rn_op 27 13 = some (.invokevirtual 77, 3, 20, 3, 8) := by decide +kernel
theorem op27_16 : rn_op 27 16 = some (.goto 4, 3, 0, 0, 0) := by decide +kernel
theorem op27_19 : rn_op 27 19 = some (.iconst (-1), 1, 0, 0, 0) := by decide +kernel
theorem op27_20 : rn_op 27 20 = some (.putfield 99, 3, 1, 5, 0) := by decide +kernel
theorem op27_23 : rn_op 27 23 = some (.aload_n 1, 1, 0, 0, 0) := by decide +kernel
theorem op27_24 : rn_op 27 24 = some (.getfield 99, 3, 1, 5, 0) := by decide +kernel
theorem op27_27 : rn_op 27 27 = some (.ifCond .ge 5, 3, 0, 0, 0) := by decide +kernel
theorem op27_30 : rn_op 27 30 = some (.iconst 0, 1, 0, 0, 0) := by decide +kernel
theorem op27_31 : rn_op 27 31 = some (.ireturn, 1, 0, 0, 0) := by decide +kernel
theorem op27_32 : rn_op 27 32 = some (.aload_n 1, 1, 0, 0, 0) := by decide +kernel
theorem op27_33 : rn_op 27 33 = some (.aload_n 0, 1, 0, 0, 0) := by decide +kernel
theorem op27_34 : rn_op 27 34 = some (.bipush 108, 2, 0, 0, 0) := by decide +kernel
theorem op27_36 : rn_op 27 36 = some (.invokevirtual 56, 3, 18, 2, 8) := by decide +kernel
theorem op27_39 : rn_op 27 39 = some (.ifCond .eq 12, 3, 0, 0, 0) := by decide +kernel
theorem op27_42 : rn_op 27 42 = some (.aload_n 0, 1, 0, 0, 0) := by decide +kernel
theorem op27_43 : rn_op 27 43 = some (.iconst 0, 1, 0, 0, 0) := by decide +kernel
theorem op27_44 : rn_op 27 44 = some (.iconst 1, 1, 0, 0, 0) := by decide +kernel
theorem op27_45 : rn_op 27 45 = some (.invokevirtual 77, 3, 20, 3, 8) := by decide +kernel
theorem op27_48 : rn_op 27 48 = some (.goto 4, 3, 0, 0, 0) := by decide +kernel
theorem op27_51 : rn_op 27 51 = some (.iconst (-1), 1, 0, 0, 0) := by decide +kernel
theorem op27_52 : rn_op 27 52 = some (.putfield 102, 3, 1, 6, 0) := by decide +kernel
theorem op27_55 : rn_op 27 55 = some (.aload_n 1, 1, 0, 0, 0) := by decide +kernel
theorem op27_56 : rn_op 27 56 = some (.getfield 102, 3, 1, 6, 0) := by decide +kernel
theorem op27_59 : rn_op 27 59 = some (.ifCond .ge 5, 3, 0, 0, 0) := by decide +kernel
theorem op27_62 : rn_op 27 62 = some (.iconst 0, 1, 0, 0, 0) := by decide +kernel
theorem op27_63 : rn_op 27 63 = some (.ireturn, 1, 0, 0, 0) := by decide +kernel
theorem op27_64 : rn_op 27 64 = some (.aload_n 1, 1, 0, 0, 0) := by decide +kernel
theorem op27_65 : rn_op 27 65 = some (.aload_n 0, 1, 0, 0, 0) := by decide +kernel
theorem op27_66 : rn_op 27 66 = some (.bipush 107, 2, 0, 0, 0) := by decide +kernel
theorem op27_68 : rn_op 27 68 = some (.invokevirtual 56, 3, 18, 2, 8) := by decide +kernel
theorem op27_71 : rn_op 27 71 = some (.ifCond .eq 12, 3, 0, 0, 0) := by decide +kernel
theorem op27_74 : rn_op 27 74 = some (.aload_n 0, 1, 0, 0, 0) := by decide +kernel
theorem op27_75 : rn_op 27 75 = some (.iconst 0, 1, 0, 0, 0) := by decide +kernel
theorem op27_76 : rn_op 27 76 = some (.iconst 1, 1, 0, 0, 0) := by decide +kernel
theorem op27_77 : rn_op 27 77 = some (.invokevirtual 77, 3, 20, 3, 8) := by decide +kernel
theorem op27_80 : rn_op 27 80 = some (.goto 4, 3, 0, 0, 0) := by decide +kernel
theorem op27_83 : rn_op 27 83 = some (.iconst (-1), 1, 0, 0, 0) := by decide +kernel
theorem op27_84 : rn_op 27 84 = some (.putfield 105, 3, 1, 7, 0) := by decide +kernel
theorem op27_87 : rn_op 27 87 = some (.aload_n 1, 1, 0, 0, 0) := by decide +kernel
theorem op27_88 : rn_op 27 88 = some (.getfield 105, 3, 1, 7, 0) := by decide +kernel
theorem op27_91 : rn_op 27 91 = some (.ifCond .lt 7, 3, 0, 0, 0) := by decide +kernel
theorem op27_94 : rn_op 27 94 = some (.iconst 1, 1, 0, 0, 0) := by decide +kernel
theorem op27_95 : rn_op 27 95 = some (.goto 4, 3, 0, 0, 0) := by decide +kernel
theorem op27_98 : rn_op 27 98 = some (.iconst 0, 1, 0, 0, 0) := by decide +kernel
theorem op27_99 : rn_op 27 99 = some (.ireturn, 1, 0, 0, 0) := by decide +kernel
def tp_readLaws (n : Nat) (q1 : Nat) (m : rn_Mem) : Option (Int32 × rn_Mem) :=
  (tp_take n 102 m).bind fun (r2, m1) =>
  (show Option (Int32 × rn_Mem) from
    if r2 = 0 then
      some ((-1), m1)
    else
      (tp_digit n 0 2 m1).bind fun (r6, m5) =>
      some (r6, m5)).bind fun (x8, m9) =>
  (some (rm_i m9 q1 5 x8)).bind fun (m10 : rn_Mem) =>
  if (m10.1 q1 5) < 0 then
    some (0, m10)
  else
    (tp_take n 108 m10).bind fun (r13, m12) =>
    (show Option (Int32 × rn_Mem) from
      if r13 = 0 then
        some ((-1), m12)
      else
        (tp_digit n 0 1 m12).bind fun (r17, m16) =>
        some (r17, m16)).bind fun (x19, m20) =>
    (some (rm_i m20 q1 6 x19)).bind fun (m21 : rn_Mem) =>
    if (m21.1 q1 6) < 0 then
      some (0, m21)
    else
      (tp_take n 107 m21).bind fun (r24, m23) =>
      (show Option (Int32 × rn_Mem) from
        if r24 = 0 then
          some ((-1), m23)
        else
          (tp_digit n 0 1 m23).bind fun (r28, m27) =>
          some (r28, m27)).bind fun (x31, m32) =>
      (some (rm_i m32 q1 7 x31)).bind fun (m33 : rn_Mem) =>
      if (m33.1 q1 7) < 0 then
        some (0, m33)
      else
        some (1, m33)
set_option maxHeartbeats 4000000 in
set_option maxRecDepth 20000 in
theorem tp_readLaws_ok (xs : List Int32) {d : Nat} (hd : 2 ≤ d) {n : Nat} {q1 : Nat} {m mO : rn_Mem} {rO : Int32} (hq1 : sA_Game q1) (h : tp_readLaws n q1 m = some (rO, mO)) : rn_R xs d 27 0 (rn_ent 2 [.ref 1, .ref q1]) [] (rn_SH, m) (some (.int rO)) (rn_SH, mO) := by
  obtain ⟨d, rfl⟩ : ∃ e, d = e + 1 := ⟨d - 1, by omega⟩
  unfold tp_readLaws at h
  show rn_R xs (d + 1) 27 0 [some (.ref 1), some (.ref q1)] [] (rn_SH, m) (some (.int rO)) (rn_SH, mO)
  refine rx_p (L2 := [some (.ref 1), some (.ref q1)]) (S2 := [.ref q1]) (pc2 := 1) op27_0 rfl rfl ?_
  refine rx_p (L2 := [some (.ref 1), some (.ref q1)]) (S2 := [.ref 1, .ref q1]) (pc2 := 2) op27_1 rfl rfl ?_
  refine rx_bp (v := 102) (pc2 := 4) op27_2 (by decide) rfl ?_
  obtain ⟨⟨r2, m1⟩, f3, h⟩ := rq_bind h
  try dsimp only at h
  refine ry_iv (p := 1) (vs := [.int 102]) (T := [.ref q1]) (pc2 := 7) op27_4 ms_18 (by decide) rfl rfl (Nat.le_of_ble_eq_true rfl) (Nat.le_of_ble_eq_true rfl) sp_1 (tp_take_ok xs (by omega)  f3) rfl ?_
  show rn_R _ _ _ _ _ [.int r2, .ref q1] _ _ _
  obtain ⟨⟨x8, m9⟩, gc37, h⟩ := rq_bind h
  try dsimp only at h
  have c37 : ∀ (_ : Unit), rn_R xs (d + 1) 27 20 [some (.ref 1), some (.ref q1)] [.int x8, .ref q1] (rn_SH, m9) (some (.int rO)) (rn_SH, mO) := by
    intro _
    obtain ⟨m10, em10, h⟩ := rq_bv h
    refine rx_pf (m2 := m10) (pc2 := 23) op27_20 hq1 rfl em10 rfl ?_
    refine rx_p (L2 := [some (.ref 1), some (.ref q1)]) (S2 := [.ref q1]) (pc2 := 24) op27_23 rfl rfl ?_
    refine rx_gf (v := .int (m10.1 q1 5)) (pc2 := 27) op27_24 hq1 rfl rfl rfl ?_
    refine ry_if_ge (tgt := 32) (pc2 := 30) op27_27 (by decide) (by decide) rfl (fun b11 => ?_) (fun b11 => ?_)
    · have h := (if_pos b11).symm.trans h
      refine rx_ic (v := 0) (pc2 := 31) op27_30 (by decide) rfl ?_
      obtain ⟨rfl, rfl⟩ := rq_ret h
      exact ry_rz (x := 0) op27_31 ms_27 rfl (by decide)
    · have h := (if_neg b11).symm.trans h
      refine rx_p (L2 := [some (.ref 1), some (.ref q1)]) (S2 := [.ref q1]) (pc2 := 33) op27_32 rfl rfl ?_
      refine rx_p (L2 := [some (.ref 1), some (.ref q1)]) (S2 := [.ref 1, .ref q1]) (pc2 := 34) op27_33 rfl rfl ?_
      refine rx_bp (v := 108) (pc2 := 36) op27_34 (by decide) rfl ?_
      obtain ⟨⟨r13, m12⟩, f14, h⟩ := rq_bind h
      try dsimp only at h
      refine ry_iv (p := 1) (vs := [.int 108]) (T := [.ref q1]) (pc2 := 39) op27_36 ms_18 (by decide) rfl rfl (Nat.le_of_ble_eq_true rfl) (Nat.le_of_ble_eq_true rfl) sp_1 (tp_take_ok xs (by omega)  f14) rfl ?_
      show rn_R _ _ _ _ _ [.int r13, .ref q1] _ _ _
      obtain ⟨⟨x19, m20⟩, gc36, h⟩ := rq_bind h
      try dsimp only at h
      have c36 : ∀ (_ : Unit), rn_R xs (d + 1) 27 52 [some (.ref 1), some (.ref q1)] [.int x19, .ref q1] (rn_SH, m20) (some (.int rO)) (rn_SH, mO) := by
        intro _
        obtain ⟨m21, em21, h⟩ := rq_bv h
        refine rx_pf (m2 := m21) (pc2 := 55) op27_52 hq1 rfl em21 rfl ?_
        refine rx_p (L2 := [some (.ref 1), some (.ref q1)]) (S2 := [.ref q1]) (pc2 := 56) op27_55 rfl rfl ?_
        refine rx_gf (v := .int (m21.1 q1 6)) (pc2 := 59) op27_56 hq1 rfl rfl rfl ?_
        refine ry_if_ge (tgt := 64) (pc2 := 62) op27_59 (by decide) (by decide) rfl (fun b22 => ?_) (fun b22 => ?_)
        · have h := (if_pos b22).symm.trans h
          refine rx_ic (v := 0) (pc2 := 63) op27_62 (by decide) rfl ?_
          obtain ⟨rfl, rfl⟩ := rq_ret h
          exact ry_rz (x := 0) op27_63 ms_27 rfl (by decide)
        · have h := (if_neg b22).symm.trans h
          refine rx_p (L2 := [some (.ref 1), some (.ref q1)]) (S2 := [.ref q1]) (pc2 := 65) op27_64 rfl rfl ?_
          refine rx_p (L2 := [some (.ref 1), some (.ref q1)]) (S2 := [.ref 1, .ref q1]) (pc2 := 66) op27_65 rfl rfl ?_
          refine rx_bp (v := 107) (pc2 := 68) op27_66 (by decide) rfl ?_
          obtain ⟨⟨r24, m23⟩, f25, h⟩ := rq_bind h
          try dsimp only at h
          refine ry_iv (p := 1) (vs := [.int 107]) (T := [.ref q1]) (pc2 := 71) op27_68 ms_18 (by decide) rfl rfl (Nat.le_of_ble_eq_true rfl) (Nat.le_of_ble_eq_true rfl) sp_1 (tp_take_ok xs (by omega)  f25) rfl ?_
          show rn_R _ _ _ _ _ [.int r24, .ref q1] _ _ _
          obtain ⟨⟨x31, m32⟩, gc35, h⟩ := rq_bind h
          try dsimp only at h
          have c35 : ∀ (o30 : Option Value), rn_R xs (d + 1) 27 84 [o30, some (.ref q1)] [.int x31, .ref q1] (rn_SH, m32) (some (.int rO)) (rn_SH, mO) := by
            intro o30
            obtain ⟨m33, em33, h⟩ := rq_bv h
            refine rx_pf (m2 := m33) (pc2 := 87) op27_84 hq1 rfl em33 rfl ?_
            refine rx_p (L2 := [o30, some (.ref q1)]) (S2 := [.ref q1]) (pc2 := 88) op27_87 rfl rfl ?_
            refine rx_gf (v := .int (m33.1 q1 7)) (pc2 := 91) op27_88 hq1 rfl rfl rfl ?_
            refine ry_if_lt (tgt := 98) (pc2 := 94) op27_91 (by decide) (by decide) rfl (fun b34 => ?_) (fun b34 => ?_)
            · have h := (if_pos b34).symm.trans h
              refine rx_ic (v := 0) (pc2 := 99) op27_98 (by decide) rfl ?_
              obtain ⟨rfl, rfl⟩ := rq_ret h
              exact ry_rz (x := 0) op27_99 ms_27 rfl (by decide)
            · have h := (if_neg b34).symm.trans h
              refine rx_ic (v := 1) (pc2 := 95) op27_94 (by decide) rfl ?_
              refine ry_go (tgt := 99) op27_95 (by decide) (by decide) ?_
              obtain ⟨rfl, rfl⟩ := rq_ret h
              exact ry_rz (x := 1) op27_99 ms_27 rfl (by decide)
          refine ry_if_eq (tgt := 83) (pc2 := 74) op27_71 (by decide) (by decide) rfl (fun b26 => ?_) (fun b26 => ?_)
          · have gc35 := (if_pos b26).symm.trans gc35
            refine rx_ic (v := (-1)) (pc2 := 84) op27_83 (by decide) rfl ?_
            cases gc35
            exact c35 _
          · have gc35 := (if_neg b26).symm.trans gc35
            refine rx_p (L2 := [some (.ref 1), some (.ref q1)]) (S2 := [.ref 1, .ref q1]) (pc2 := 75) op27_74 rfl rfl ?_
            refine rx_ic (v := 0) (pc2 := 76) op27_75 (by decide) rfl ?_
            refine rx_ic (v := 1) (pc2 := 77) op27_76 (by decide) rfl ?_
            obtain ⟨⟨r28, m27⟩, f29, gc35⟩ := rq_bind gc35
            try dsimp only at gc35
            refine ry_iv (p := 1) (vs := [.int 0, .int 1]) (T := [.ref q1]) (pc2 := 80) op27_77 ms_20 (by decide) rfl rfl (Nat.le_of_ble_eq_true rfl) (Nat.le_of_ble_eq_true rfl) sp_1 (tp_digit_ok xs (by omega)  f29) rfl ?_
            show rn_R _ _ _ _ _ [.int r28, .ref q1] _ _ _
            refine ry_go (tgt := 84) op27_80 (by decide) (by decide) ?_
            cases gc35
            exact c35 _
      refine ry_if_eq (tgt := 51) (pc2 := 42) op27_39 (by decide) (by decide) rfl (fun b15 => ?_) (fun b15 => ?_)
      · have gc36 := (if_pos b15).symm.trans gc36
        refine rx_ic (v := (-1)) (pc2 := 52) op27_51 (by decide) rfl ?_
        cases gc36
        exact c36 ()
      · have gc36 := (if_neg b15).symm.trans gc36
        refine rx_p (L2 := [some (.ref 1), some (.ref q1)]) (S2 := [.ref 1, .ref q1]) (pc2 := 43) op27_42 rfl rfl ?_
        refine rx_ic (v := 0) (pc2 := 44) op27_43 (by decide) rfl ?_
        refine rx_ic (v := 1) (pc2 := 45) op27_44 (by decide) rfl ?_
        obtain ⟨⟨r17, m16⟩, f18, gc36⟩ := rq_bind gc36
        try dsimp only at gc36
        refine ry_iv (p := 1) (vs := [.int 0, .int 1]) (T := [.ref q1]) (pc2 := 48) op27_45 ms_20 (by decide) rfl rfl (Nat.le_of_ble_eq_true rfl) (Nat.le_of_ble_eq_true rfl) sp_1 (tp_digit_ok xs (by omega)  f18) rfl ?_
        show rn_R _ _ _ _ _ [.int r17, .ref q1] _ _ _
        refine ry_go (tgt := 52) op27_48 (by decide) (by decide) ?_
        cases gc36
        exact c36 ()
  refine ry_if_eq (tgt := 19) (pc2 := 10) op27_7 (by decide) (by decide) rfl (fun b4 => ?_) (fun b4 => ?_)
  · have gc37 := (if_pos b4).symm.trans gc37
    refine rx_ic (v := (-1)) (pc2 := 20) op27_19 (by decide) rfl ?_
    cases gc37
    exact c37 ()
  · have gc37 := (if_neg b4).symm.trans gc37
    refine rx_p (L2 := [some (.ref 1), some (.ref q1)]) (S2 := [.ref 1, .ref q1]) (pc2 := 11) op27_10 rfl rfl ?_
    refine rx_ic (v := 0) (pc2 := 12) op27_11 (by decide) rfl ?_
    refine rx_ic (v := 2) (pc2 := 13) op27_12 (by decide) rfl ?_
    obtain ⟨⟨r6, m5⟩, f7, gc37⟩ := rq_bind gc37
    try dsimp only at gc37
    refine ry_iv (p := 1) (vs := [.int 0, .int 2]) (T := [.ref q1]) (pc2 := 16) op27_13 ms_20 (by decide) rfl rfl (Nat.le_of_ble_eq_true rfl) (Nat.le_of_ble_eq_true rfl) sp_1 (tp_digit_ok xs (by omega)  f7) rfl ?_
    show rn_R _ _ _ _ _ [.int r6, .ref q1] _ _ _
    refine ry_go (tgt := 20) op27_16 (by decide) (by decide) ?_
    cases gc37
    exact c37 ()
/-! tp_readBegins -/
theorem op28_0 : rn_op 28 0 = some (.aload_n 1, 1, 0, 0, 0) := by decide +kernel
theorem op28_1 : rn_op 28 1 = some (.iconst (-1), 1, 0, 0, 0) := by decide +kernel
theorem op28_2 : rn_op 28 2 = some (.putfield 108, 3, 1, 8, 0) := by decide +kernel
theorem op28_5 : rn_op 28 5 = some (.aload_n 0, 1, 0, 0, 0) := by decide +kernel
theorem op28_6 : rn_op 28 6 = some (.bipush 98, 2, 0, 0, 0) := by decide +kernel
theorem op28_8 : rn_op 28 8 = some (.invokevirtual 56, 3, 18, 2, 8) := by decide +kernel
theorem op28_11 : rn_op 28 11 = some (.ifCond .ne 5, 3, 0, 0, 0) := by decide +kernel
theorem op28_14 : rn_op 28 14 = some (.iconst 0, 1, 0, 0, 0) := by decide +kernel
theorem op28_15 : rn_op 28 15 = some (.ireturn, 1, 0, 0, 0) := by decide +kernel
theorem op28_16 : rn_op 28 16 = some (.aload_n 0, 1, 0, 0, 0) := by decide +kernel
theorem op28_17 : rn_op 28 17 = some (.bipush 63, 2, 0, 0, 0) := by decide +kernel
theorem op28_19 : rn_op 28 19 = some (.invokevirtual 56, 3, 18, 2, 8) := by decide +kernel
theorem op28_22 : rn_op 28 22 = some (.ifCond .eq 5, 3, 0, 0, 0) := by decide +kernel
theorem op28_25 : rn_op 28 25 = some (.iconst 1, 1, 0, 0, 0) := by decide +kernel
theorem op28_26 : rn_op 28 26 = some (.ireturn, 1, 0, 0, 0) := by decide +kernel
theorem op28_27 : rn_op 28 27 = some (.aload_n 1, 1, 0, 0, 0) := by decide +kernel
theorem op28_28 : rn_op 28 28 = some (.aload_n 0, 1, 0, 0, 0) := by decide +kernel
theorem op28_29 : rn_op 28 29 = some (.iconst 0, 1, 0, 0, 0) := by decide +kernel
theorem op28_30 : rn_op 28 30 = some (.aload_n 1, 1, 0, 0, 0) := by decide +kernel
theorem op28_31 : rn_op 28 31 = some (.getfield 53, 3, 1, 1, 0) := by decide +kernel
theorem op28_34 : rn_op 28 34 = some (.iconst 1, 1, 0, 0, 0) := by decide +kernel
theorem op28_35 : rn_op 28 35 = some (.isub, 1, 0, 0, 0) := by decide +kernel
theorem op28_36 : rn_op 28 36 = some (.invokevirtual 77, 3, 20, 3, 8) := by decide +kernel
theorem op28_39 : rn_op 28 39 = some (.putfield 108, 3, 1, 8, 0) := by decide +kernel
theorem op28_42 : rn_op 28 42 = some (.aload_n 1, 1, 0, 0, 0) := by decide +kernel
theorem op28_43 : rn_op 28 43 = some (.getfield 108, 3, 1, 8, 0) := by decide +kernel
theorem op28_46 : rn_op 28 46 = some (.ifCond .lt 7, 3, 0, 0, 0) := by decide +kernel
theorem op28_49 : rn_op 28 49 = some (.iconst 1, 1, 0, 0, 0) := by decide +kernel
theorem op28_50 : rn_op 28 50 = some (.goto 4, 3, 0, 0, 0) := by decide +kernel
theorem op28_53 : rn_op 28 53 = some (.iconst 0, 1, 0, 0, 0) := by decide +kernel
theorem op28_54 : rn_op 28 54 = some (.ireturn, 1, 0, 0, 0) := by decide +kernel
def tp_readBegins (n : Nat) (q1 : Nat) (m : rn_Mem) : Option (Int32 × rn_Mem) :=
  (some (rm_i m q1 8 (-1))).bind fun (m1 : rn_Mem) =>
  (tp_take n 98 m1).bind fun (r3, m2) =>
  if r3 = 0 then
    some (0, m2)
  else
    (tp_take n 63 m2).bind fun (r7, m6) =>
    if r7 = 0 then
      (tp_digit n 0 ((m6.1 q1 1) - 1) m6).bind fun (r11, m10) =>
      (some (rm_i m10 q1 8 r11)).bind fun (m13 : rn_Mem) =>
      if (m13.1 q1 8) < 0 then
        some (0, m13)
      else
        some (1, m13)
    else
      some (1, m6)
set_option maxHeartbeats 4000000 in
set_option maxRecDepth 20000 in
theorem tp_readBegins_ok (xs : List Int32) {d : Nat} (hd : 2 ≤ d) {n : Nat} {q1 : Nat} {m mO : rn_Mem} {rO : Int32} (hq1 : sA_Game q1) (h : tp_readBegins n q1 m = some (rO, mO)) : rn_R xs d 28 0 (rn_ent 2 [.ref 1, .ref q1]) [] (rn_SH, m) (some (.int rO)) (rn_SH, mO) := by
  obtain ⟨d, rfl⟩ : ∃ e, d = e + 1 := ⟨d - 1, by omega⟩
  unfold tp_readBegins at h
  show rn_R xs (d + 1) 28 0 [some (.ref 1), some (.ref q1)] [] (rn_SH, m) (some (.int rO)) (rn_SH, mO)
  refine rx_p (L2 := [some (.ref 1), some (.ref q1)]) (S2 := [.ref q1]) (pc2 := 1) op28_0 rfl rfl ?_
  refine rx_ic (v := (-1)) (pc2 := 2) op28_1 (by decide) rfl ?_
  obtain ⟨m1, em1, h⟩ := rq_bv h
  refine rx_pf (m2 := m1) (pc2 := 5) op28_2 hq1 rfl em1 rfl ?_
  refine rx_p (L2 := [some (.ref 1), some (.ref q1)]) (S2 := [.ref 1]) (pc2 := 6) op28_5 rfl rfl ?_
  refine rx_bp (v := 98) (pc2 := 8) op28_6 (by decide) rfl ?_
  obtain ⟨⟨r3, m2⟩, f4, h⟩ := rq_bind h
  try dsimp only at h
  refine ry_iv (p := 1) (vs := [.int 98]) (T := []) (pc2 := 11) op28_8 ms_18 (by decide) rfl rfl (Nat.le_of_ble_eq_true rfl) (Nat.le_of_ble_eq_true rfl) sp_1 (tp_take_ok xs (by omega)  f4) rfl ?_
  show rn_R _ _ _ _ _ [.int r3] _ _ _
  refine ry_if_ne (tgt := 16) (pc2 := 14) op28_11 (by decide) (by decide) rfl (fun b5 => ?_) (fun b5 => ?_)
  · have h := (if_pos b5).symm.trans h
    refine rx_ic (v := 0) (pc2 := 15) op28_14 (by decide) rfl ?_
    obtain ⟨rfl, rfl⟩ := rq_ret h
    exact ry_rz (x := 0) op28_15 ms_28 rfl (by decide)
  · have h := (if_neg b5).symm.trans h
    refine rx_p (L2 := [some (.ref 1), some (.ref q1)]) (S2 := [.ref 1]) (pc2 := 17) op28_16 rfl rfl ?_
    refine rx_bp (v := 63) (pc2 := 19) op28_17 (by decide) rfl ?_
    obtain ⟨⟨r7, m6⟩, f8, h⟩ := rq_bind h
    try dsimp only at h
    refine ry_iv (p := 1) (vs := [.int 63]) (T := []) (pc2 := 22) op28_19 ms_18 (by decide) rfl rfl (Nat.le_of_ble_eq_true rfl) (Nat.le_of_ble_eq_true rfl) sp_1 (tp_take_ok xs (by omega)  f8) rfl ?_
    show rn_R _ _ _ _ _ [.int r7] _ _ _
    refine ry_if_eq (tgt := 27) (pc2 := 25) op28_22 (by decide) (by decide) rfl (fun b9 => ?_) (fun b9 => ?_)
    · have h := (if_pos b9).symm.trans h
      refine rx_p (L2 := [some (.ref 1), some (.ref q1)]) (S2 := [.ref q1]) (pc2 := 28) op28_27 rfl rfl ?_
      refine rx_p (L2 := [some (.ref 1), some (.ref q1)]) (S2 := [.ref 1, .ref q1]) (pc2 := 29) op28_28 rfl rfl ?_
      refine rx_ic (v := 0) (pc2 := 30) op28_29 (by decide) rfl ?_
      refine rx_p (L2 := [some (.ref 1), some (.ref q1)]) (S2 := [.ref q1, .int 0, .ref 1, .ref q1]) (pc2 := 31) op28_30 rfl rfl ?_
      refine rx_gf (v := .int (m6.1 q1 1)) (pc2 := 34) op28_31 hq1 rfl rfl rfl ?_
      refine rx_ic (v := 1) (pc2 := 35) op28_34 (by decide) rfl ?_
      refine rx_p (L2 := [some (.ref 1), some (.ref q1)]) (S2 := [.int ((m6.1 q1 1) - 1), .int 0, .ref 1, .ref q1]) (pc2 := 36) op28_35 rfl rfl ?_
      obtain ⟨⟨r11, m10⟩, f12, h⟩ := rq_bind h
      try dsimp only at h
      refine ry_iv (p := 1) (vs := [.int 0, .int ((m6.1 q1 1) - 1)]) (T := [.ref q1]) (pc2 := 39) op28_36 ms_20 (by decide) rfl rfl (Nat.le_of_ble_eq_true rfl) (Nat.le_of_ble_eq_true rfl) sp_1 (tp_digit_ok xs (by omega)  f12) rfl ?_
      show rn_R _ _ _ _ _ [.int r11, .ref q1] _ _ _
      obtain ⟨m13, em13, h⟩ := rq_bv h
      refine rx_pf (m2 := m13) (pc2 := 42) op28_39 hq1 rfl em13 rfl ?_
      refine rx_p (L2 := [some (.ref 1), some (.ref q1)]) (S2 := [.ref q1]) (pc2 := 43) op28_42 rfl rfl ?_
      refine rx_gf (v := .int (m13.1 q1 8)) (pc2 := 46) op28_43 hq1 rfl rfl rfl ?_
      refine ry_if_lt (tgt := 53) (pc2 := 49) op28_46 (by decide) (by decide) rfl (fun b14 => ?_) (fun b14 => ?_)
      · have h := (if_pos b14).symm.trans h
        refine rx_ic (v := 0) (pc2 := 54) op28_53 (by decide) rfl ?_
        obtain ⟨rfl, rfl⟩ := rq_ret h
        exact ry_rz (x := 0) op28_54 ms_28 rfl (by decide)
      · have h := (if_neg b14).symm.trans h
        refine rx_ic (v := 1) (pc2 := 50) op28_49 (by decide) rfl ?_
        refine ry_go (tgt := 54) op28_50 (by decide) (by decide) ?_
        obtain ⟨rfl, rfl⟩ := rq_ret h
        exact ry_rz (x := 1) op28_54 ms_28 rfl (by decide)
    · have h := (if_neg b9).symm.trans h
      refine rx_ic (v := 1) (pc2 := 26) op28_25 (by decide) rfl ?_
      obtain ⟨rfl, rfl⟩ := rq_ret h
      exact ry_rz (x := 1) op28_26 ms_28 rfl (by decide)
/-! tp_ended -/
theorem op29_0 : rn_op 29 0 = some (.aload_n 0, 1, 0, 0, 0) := by decide +kernel
theorem op29_1 : rn_op 29 1 = some (.invokevirtual 71, 3, 19, 1, 8) := by decide +kernel
theorem op29_4 : rn_op 29 4 = some (.ifCond .ge 7, 3, 0, 0, 0) := by decide +kernel
theorem op29_7 : rn_op 29 7 = some (.iconst 1, 1, 0, 0, 0) := by decide +kernel
theorem op29_8 : rn_op 29 8 = some (.goto 4, 3, 0, 0, 0) := by decide +kernel
theorem op29_11 : rn_op 29 11 = some (.iconst 0, 1, 0, 0, 0) := by decide +kernel
theorem op29_12 : rn_op 29 12 = some (.ireturn, 1, 0, 0, 0) := by decide +kernel
def tp_ended (n : Nat)  (m : rn_Mem) : Option (Int32 × rn_Mem) :=
  (tp_peek n m).bind fun (r2, m1) =>
  if r2 < 0 then
    some (1, m1)
  else
    some (0, m1)
set_option maxHeartbeats 4000000 in
set_option maxRecDepth 20000 in
theorem tp_ended_ok (xs : List Int32) {d : Nat} (hd : 1 ≤ d) {n : Nat} {m mO : rn_Mem} {rO : Int32} (h : tp_ended n  m = some (rO, mO)) : rn_R xs d 29 0 (rn_ent 1 [.ref 1]) [] (rn_SH, m) (some (.int rO)) (rn_SH, mO) := by
  obtain ⟨d, rfl⟩ : ∃ e, d = e + 1 := ⟨d - 1, by omega⟩
  unfold tp_ended at h
  show rn_R xs (d + 1) 29 0 [some (.ref 1)] [] (rn_SH, m) (some (.int rO)) (rn_SH, mO)
  refine rx_p (L2 := [some (.ref 1)]) (S2 := [.ref 1]) (pc2 := 1) op29_0 rfl rfl ?_
  obtain ⟨⟨r2, m1⟩, f3, h⟩ := rq_bind h
  try dsimp only at h
  refine ry_iv (p := 1) (vs := []) (T := []) (pc2 := 4) op29_1 ms_19 (by decide) rfl rfl (Nat.le_of_ble_eq_true rfl) (Nat.le_of_ble_eq_true rfl) sp_1 (tp_peek_ok xs (by omega)  f3) rfl ?_
  show rn_R _ _ _ _ _ [.int r2] _ _ _
  refine ry_if_ge (tgt := 11) (pc2 := 7) op29_4 (by decide) (by decide) rfl (fun b4 => ?_) (fun b4 => ?_)
  · have h := (if_pos b4).symm.trans h
    refine rx_ic (v := 1) (pc2 := 8) op29_7 (by decide) rfl ?_
    refine ry_go (tgt := 12) op29_8 (by decide) (by decide) ?_
    obtain ⟨rfl, rfl⟩ := rq_ret h
    exact ry_rz (x := 1) op29_12 ms_29 rfl (by decide)
  · have h := (if_neg b4).symm.trans h
    refine rx_ic (v := 0) (pc2 := 12) op29_11 (by decide) rfl ?_
    obtain ⟨rfl, rfl⟩ := rq_ret h
    exact ry_rz (x := 0) op29_12 ms_29 rfl (by decide)
/-! tp_readGame -/
theorem op16_0 : rn_op 16 0 = some (.aload_n 1, 1, 0, 0, 0) := by decide +kernel
theorem op16_1 : rn_op 16 1 = some (.iconst 1, 1, 0, 0, 0) := by decide +kernel
theorem op16_2 : rn_op 16 2 = some (.putfield 22, 3, 1, 0, 2) := by decide +kernel
theorem op16_5 : rn_op 16 5 = some (.aload_n 0, 1, 0, 0, 0) := by decide +kernel
theorem op16_6 : rn_op 16 6 = some (.aload_n 1, 1, 0, 0, 0) := by decide +kernel
theorem op16_7 : rn_op 16 7 = some (.invokevirtual 28, 3, 17, 2, 8) := by decide +kernel
theorem op16_10 : rn_op 16 10 = some (.ifCond .eq 46, 3, 0, 0, 0) := by decide +kernel
theorem op16_13 : rn_op 16 13 = some (.aload_n 0, 1, 0, 0, 0) := by decide +kernel
theorem op16_14 : rn_op 16 14 = some (.aload_n 1, 1, 0, 0, 0) := by decide +kernel
theorem op16_15 : rn_op 16 15 = some (.invokevirtual 32, 3, 22, 2, 8) := by decide +kernel
theorem op16_18 : rn_op 16 18 = some (.ifCond .eq 38, 3, 0, 0, 0) := by decide +kernel
theorem op16_21 : rn_op 16 21 = some (.aload_n 0, 1, 0, 0, 0) := by decide +kernel
theorem op16_22 : rn_op 16 22 = some (.aload_n 1, 1, 0, 0, 0) := by decide +kernel
theorem op16_23 : rn_op 16 23 = some (.invokevirtual 35, 3, 26, 2, 8) := by decide +kernel
theorem op16_26 : rn_op 16 26 = some (.ifCond .eq 30, 3, 0, 0, 0) := by decide +kernel
theorem op16_29 : rn_op 16 29 = some (.aload_n 0, 1, 0, 0, 0) := by decide +kernel
theorem op16_30 : rn_op 16 30 = some (.aload_n 1, 1, 0, 0, 0) := by decide +kernel
theorem op16_31 : rn_op 16 31 = some (.invokevirtual 38, 3, 27, 2, 8) := by decide +kernel
theorem op16_34 : rn_op 16 34 = some (.ifCond .eq 22, 3, 0, 0, 0) := by decide +kernel
theorem op16_37 : rn_op 16 37 = some (.aload_n 0, 1, 0, 0, 0) := by decide +kernel
theorem op16_38 : rn_op 16 38 = some (.aload_n 1, 1, 0, 0, 0) := by decide +kernel
theorem op16_39 : rn_op 16 39 = some (.invokevirtual 41, 3, 28, 2, 8) := by decide +kernel
theorem op16_42 : rn_op 16 42 = some (.ifCond .eq 14, 3, 0, 0, 0) := by decide +kernel
theorem op16_45 : rn_op 16 45 = some (.aload_n 0, 1, 0, 0, 0) := by decide +kernel
theorem op16_46 : rn_op 16 46 = some (.invokevirtual 44, 3, 29, 1, 8) := by decide +kernel
theorem op16_49 : rn_op 16 49 = some (.ifCond .eq 7, 3, 0, 0, 0) := by decide +kernel
theorem op16_52 : rn_op 16 52 = some (.iconst 1, 1, 0, 0, 0) := by decide +kernel
theorem op16_53 : rn_op 16 53 = some (.goto 4, 3, 0, 0, 0) := by decide +kernel
theorem op16_56 : rn_op 16 56 = some (.iconst 0, 1, 0, 0, 0) := by decide +kernel
theorem op16_57 : rn_op 16 57 = some (.ireturn, 1, 0, 0, 0) := by decide +kernel
def tp_readGame (n : Nat) (q1 : Nat) (m : rn_Mem) : Option (Int32 × rn_Mem) :=
  (some (rm_i m q1 0 1)).bind fun (m1 : rn_Mem) =>
  (tp_readSize n q1 m1).bind fun (r3, m2) =>
  if r3 = 0 then
    some (0, m2)
  else
    (tp_readPack n q1 m2).bind fun (r7, m6) =>
    if r7 = 0 then
      some (0, m6)
    else
      (tp_readTrump n q1 m6).bind fun (r11, m10) =>
      if r11 = 0 then
        some (0, m10)
      else
        (tp_readLaws n q1 m10).bind fun (r15, m14) =>
        if r15 = 0 then
          some (0, m14)
        else
          (tp_readBegins n q1 m14).bind fun (r19, m18) =>
          if r19 = 0 then
            some (0, m18)
          else
            (tp_ended n m18).bind fun (r23, m22) =>
            if r23 = 0 then
              some (0, m22)
            else
              some (1, m22)
set_option maxHeartbeats 4000000 in
set_option maxRecDepth 20000 in
theorem tp_readGame_ok (xs : List Int32) {d : Nat} (hd : 4 ≤ d) {n : Nat} {q1 : Nat} {m mO : rn_Mem} {rO : Int32} (hq1 : sA_Game q1) (h : tp_readGame n q1 m = some (rO, mO)) : rn_R xs d 16 0 (rn_ent 2 [.ref 1, .ref q1]) [] (rn_SH, m) (some (.int rO)) (rn_SH, mO) := by
  obtain ⟨d, rfl⟩ : ∃ e, d = e + 1 := ⟨d - 1, by omega⟩
  unfold tp_readGame at h
  show rn_R xs (d + 1) 16 0 [some (.ref 1), some (.ref q1)] [] (rn_SH, m) (some (.int rO)) (rn_SH, mO)
  refine rx_p (L2 := [some (.ref 1), some (.ref q1)]) (S2 := [.ref q1]) (pc2 := 1) op16_0 rfl rfl ?_
  refine rx_ic (v := 1) (pc2 := 2) op16_1 (by decide) rfl ?_
  obtain ⟨m1, em1, h⟩ := rq_bv h
  refine rx_pz (m2 := m1) (pc2 := 5) op16_2 hq1 rfl (by decide) em1 rfl ?_
  refine rx_p (L2 := [some (.ref 1), some (.ref q1)]) (S2 := [.ref 1]) (pc2 := 6) op16_5 rfl rfl ?_
  refine rx_p (L2 := [some (.ref 1), some (.ref q1)]) (S2 := [.ref q1, .ref 1]) (pc2 := 7) op16_6 rfl rfl ?_
  obtain ⟨⟨r3, m2⟩, f4, h⟩ := rq_bind h
  try dsimp only at h
  refine ry_iv (p := 1) (vs := [.ref q1]) (T := []) (pc2 := 10) op16_7 ms_17 (by decide) rfl rfl (Nat.le_of_ble_eq_true rfl) (Nat.le_of_ble_eq_true rfl) sp_1 (tp_readSize_ok xs (by omega) hq1 f4) rfl ?_
  show rn_R _ _ _ _ _ [.int r3] _ _ _
  refine ry_if_eq (tgt := 56) (pc2 := 13) op16_10 (by decide) (by decide) rfl (fun b5 => ?_) (fun b5 => ?_)
  · have h := (if_pos b5).symm.trans h
    refine rx_ic (v := 0) (pc2 := 57) op16_56 (by decide) rfl ?_
    obtain ⟨rfl, rfl⟩ := rq_ret h
    exact ry_rz (x := 0) op16_57 ms_16 rfl (by decide)
  · have h := (if_neg b5).symm.trans h
    refine rx_p (L2 := [some (.ref 1), some (.ref q1)]) (S2 := [.ref 1]) (pc2 := 14) op16_13 rfl rfl ?_
    refine rx_p (L2 := [some (.ref 1), some (.ref q1)]) (S2 := [.ref q1, .ref 1]) (pc2 := 15) op16_14 rfl rfl ?_
    obtain ⟨⟨r7, m6⟩, f8, h⟩ := rq_bind h
    try dsimp only at h
    refine ry_iv (p := 1) (vs := [.ref q1]) (T := []) (pc2 := 18) op16_15 ms_22 (by decide) rfl rfl (Nat.le_of_ble_eq_true rfl) (Nat.le_of_ble_eq_true rfl) sp_1 (tp_readPack_ok xs (by omega) hq1 f8) rfl ?_
    show rn_R _ _ _ _ _ [.int r7] _ _ _
    refine ry_if_eq (tgt := 56) (pc2 := 21) op16_18 (by decide) (by decide) rfl (fun b9 => ?_) (fun b9 => ?_)
    · have h := (if_pos b9).symm.trans h
      refine rx_ic (v := 0) (pc2 := 57) op16_56 (by decide) rfl ?_
      obtain ⟨rfl, rfl⟩ := rq_ret h
      exact ry_rz (x := 0) op16_57 ms_16 rfl (by decide)
    · have h := (if_neg b9).symm.trans h
      refine rx_p (L2 := [some (.ref 1), some (.ref q1)]) (S2 := [.ref 1]) (pc2 := 22) op16_21 rfl rfl ?_
      refine rx_p (L2 := [some (.ref 1), some (.ref q1)]) (S2 := [.ref q1, .ref 1]) (pc2 := 23) op16_22 rfl rfl ?_
      obtain ⟨⟨r11, m10⟩, f12, h⟩ := rq_bind h
      try dsimp only at h
      refine ry_iv (p := 1) (vs := [.ref q1]) (T := []) (pc2 := 26) op16_23 ms_26 (by decide) rfl rfl (Nat.le_of_ble_eq_true rfl) (Nat.le_of_ble_eq_true rfl) sp_1 (tp_readTrump_ok xs (by omega) hq1 f12) rfl ?_
      show rn_R _ _ _ _ _ [.int r11] _ _ _
      refine ry_if_eq (tgt := 56) (pc2 := 29) op16_26 (by decide) (by decide) rfl (fun b13 => ?_) (fun b13 => ?_)
      · have h := (if_pos b13).symm.trans h
        refine rx_ic (v := 0) (pc2 := 57) op16_56 (by decide) rfl ?_
        obtain ⟨rfl, rfl⟩ := rq_ret h
        exact ry_rz (x := 0) op16_57 ms_16 rfl (by decide)
      · have h := (if_neg b13).symm.trans h
        refine rx_p (L2 := [some (.ref 1), some (.ref q1)]) (S2 := [.ref 1]) (pc2 := 30) op16_29 rfl rfl ?_
        refine rx_p (L2 := [some (.ref 1), some (.ref q1)]) (S2 := [.ref q1, .ref 1]) (pc2 := 31) op16_30 rfl rfl ?_
        obtain ⟨⟨r15, m14⟩, f16, h⟩ := rq_bind h
        try dsimp only at h
        refine ry_iv (p := 1) (vs := [.ref q1]) (T := []) (pc2 := 34) op16_31 ms_27 (by decide) rfl rfl (Nat.le_of_ble_eq_true rfl) (Nat.le_of_ble_eq_true rfl) sp_1 (tp_readLaws_ok xs (by omega) hq1 f16) rfl ?_
        show rn_R _ _ _ _ _ [.int r15] _ _ _
        refine ry_if_eq (tgt := 56) (pc2 := 37) op16_34 (by decide) (by decide) rfl (fun b17 => ?_) (fun b17 => ?_)
        · have h := (if_pos b17).symm.trans h
          refine rx_ic (v := 0) (pc2 := 57) op16_56 (by decide) rfl ?_
          obtain ⟨rfl, rfl⟩ := rq_ret h
          exact ry_rz (x := 0) op16_57 ms_16 rfl (by decide)
        · have h := (if_neg b17).symm.trans h
          refine rx_p (L2 := [some (.ref 1), some (.ref q1)]) (S2 := [.ref 1]) (pc2 := 38) op16_37 rfl rfl ?_
          refine rx_p (L2 := [some (.ref 1), some (.ref q1)]) (S2 := [.ref q1, .ref 1]) (pc2 := 39) op16_38 rfl rfl ?_
          obtain ⟨⟨r19, m18⟩, f20, h⟩ := rq_bind h
          try dsimp only at h
          refine ry_iv (p := 1) (vs := [.ref q1]) (T := []) (pc2 := 42) op16_39 ms_28 (by decide) rfl rfl (Nat.le_of_ble_eq_true rfl) (Nat.le_of_ble_eq_true rfl) sp_1 (tp_readBegins_ok xs (by omega) hq1 f20) rfl ?_
          show rn_R _ _ _ _ _ [.int r19] _ _ _
          refine ry_if_eq (tgt := 56) (pc2 := 45) op16_42 (by decide) (by decide) rfl (fun b21 => ?_) (fun b21 => ?_)
          · have h := (if_pos b21).symm.trans h
            refine rx_ic (v := 0) (pc2 := 57) op16_56 (by decide) rfl ?_
            obtain ⟨rfl, rfl⟩ := rq_ret h
            exact ry_rz (x := 0) op16_57 ms_16 rfl (by decide)
          · have h := (if_neg b21).symm.trans h
            refine rx_p (L2 := [some (.ref 1), some (.ref q1)]) (S2 := [.ref 1]) (pc2 := 46) op16_45 rfl rfl ?_
            obtain ⟨⟨r23, m22⟩, f24, h⟩ := rq_bind h
            try dsimp only at h
            refine ry_iv (p := 1) (vs := []) (T := []) (pc2 := 49) op16_46 ms_29 (by decide) rfl rfl (Nat.le_of_ble_eq_true rfl) (Nat.le_of_ble_eq_true rfl) sp_1 (tp_ended_ok xs (by omega)  f24) rfl ?_
            show rn_R _ _ _ _ _ [.int r23] _ _ _
            refine ry_if_eq (tgt := 56) (pc2 := 52) op16_49 (by decide) (by decide) rfl (fun b25 => ?_) (fun b25 => ?_)
            · have h := (if_pos b25).symm.trans h
              refine rx_ic (v := 0) (pc2 := 57) op16_56 (by decide) rfl ?_
              obtain ⟨rfl, rfl⟩ := rq_ret h
              exact ry_rz (x := 0) op16_57 ms_16 rfl (by decide)
            · have h := (if_neg b25).symm.trans h
              refine rx_ic (v := 1) (pc2 := 53) op16_52 (by decide) rfl ?_
              refine ry_go (tgt := 57) op16_53 (by decide) (by decide) ?_
              obtain ⟨rfl, rfl⟩ := rq_ret h
              exact ry_rz (x := 1) op16_57 ms_16 rfl (by decide)
/-! tp_fault -/
theorem op30_0 : rn_op 30 0 = some (.bipush (-20), 2, 0, 0, 0) := by decide +kernel
theorem op30_2 : rn_op 30 2 = some (.aload_n 0, 1, 0, 0, 0) := by decide +kernel
theorem op30_3 : rn_op 30 3 = some (.getfield 19, 3, 8, 2, 0) := by decide +kernel
theorem op30_6 : rn_op 30 6 = some (.isub, 1, 0, 0, 0) := by decide +kernel
theorem op30_7 : rn_op 30 7 = some (.ireturn, 1, 0, 0, 0) := by decide +kernel
def tp_fault (n : Nat)  (m : rn_Mem) : Option (Int32 × rn_Mem) :=
  some (((-20) : Int32) - (m.1 1 2), m)
set_option maxHeartbeats 4000000 in
set_option maxRecDepth 20000 in
theorem tp_fault_ok (xs : List Int32) {d : Nat} (hd : 0 ≤ d) {n : Nat} {m mO : rn_Mem} {rO : Int32} (h : tp_fault n  m = some (rO, mO)) : rn_R xs d 30 0 (rn_ent 1 [.ref 1]) [] (rn_SH, m) (some (.int rO)) (rn_SH, mO) := by
  unfold tp_fault at h
  show rn_R xs d 30 0 [some (.ref 1)] [] (rn_SH, m) (some (.int rO)) (rn_SH, mO)
  refine rx_bp (v := (-20)) (pc2 := 2) op30_0 (by decide) rfl ?_
  refine rx_p (L2 := [some (.ref 1)]) (S2 := [.ref 1, .int (-20)]) (pc2 := 3) op30_2 rfl rfl ?_
  refine rx_gf (v := .int (m.1 1 2)) (pc2 := 6) op30_3 sp_1 rfl rfl rfl ?_
  refine rx_p (L2 := [some (.ref 1)]) (S2 := [.int (((-20) : Int32) - (m.1 1 2))]) (pc2 := 7) op30_6 rfl rfl ?_
  obtain ⟨rfl, rfl⟩ := rq_ret h
  exact ry_ri op30_7 ms_30 rfl
/-! tp_clear -/
theorem op31_0 : rn_op 31 0 = some (.aload_n 0, 1, 0, 0, 0) := by decide +kernel
theorem op31_1 : rn_op 31 1 = some (.iconst 0, 1, 0, 0, 0) := by decide +kernel
theorem op31_2 : rn_op 31 2 = some (.putfield 15, 3, 8, 1, 0) := by decide +kernel
theorem op31_5 : rn_op 31 5 = some (.aload_n 0, 1, 0, 0, 0) := by decide +kernel
theorem op31_6 : rn_op 31 6 = some (.iconst 0, 1, 0, 0, 0) := by decide +kernel
theorem op31_7 : rn_op 31 7 = some (.putfield 19, 3, 8, 2, 0) := by decide +kernel
theorem op31_10 : rn_op 31 10 = some (.return_, 1, 0, 0, 0) := by decide +kernel
def tp_clear (n : Nat)  (m : rn_Mem) : Option (rn_Mem) :=
  (some (rm_i m 1 1 0)).bind fun (m1 : rn_Mem) =>
  (some (rm_i m1 1 2 0)).bind fun (m2 : rn_Mem) =>
  some m2
set_option maxHeartbeats 4000000 in
set_option maxRecDepth 20000 in
theorem tp_clear_ok (xs : List Int32) {d : Nat} (hd : 0 ≤ d) {n : Nat} {m mO : rn_Mem} (h : tp_clear n  m = some mO) : rn_R xs d 31 0 (rn_ent 1 [.ref 1]) [] (rn_SH, m) none (rn_SH, mO) := by
  unfold tp_clear at h
  show rn_R xs d 31 0 [some (.ref 1)] [] (rn_SH, m) none (rn_SH, mO)
  refine rx_p (L2 := [some (.ref 1)]) (S2 := [.ref 1]) (pc2 := 1) op31_0 rfl rfl ?_
  refine rx_ic (v := 0) (pc2 := 2) op31_1 (by decide) rfl ?_
  obtain ⟨m1, em1, h⟩ := rq_bv h
  refine rx_pf (m2 := m1) (pc2 := 5) op31_2 sp_1 rfl em1 rfl ?_
  refine rx_p (L2 := [some (.ref 1)]) (S2 := [.ref 1]) (pc2 := 6) op31_5 rfl rfl ?_
  refine rx_ic (v := 0) (pc2 := 7) op31_6 (by decide) rfl ?_
  obtain ⟨m2, em2, h⟩ := rq_bv h
  refine rx_pf (m2 := m2) (pc2 := 10) op31_7 sp_1 rfl em2 rfl ?_
  obtain rfl := Option.some.inj h
  exact ry_rv op31_10 ms_31 rfl
/-! ga_copy -/
theorem op33_0 : rn_op 33 0 = some (.aload_n 0, 1, 0, 0, 0) := by decide +kernel
theorem op33_1 : rn_op 33 1 = some (.aload_n 1, 1, 0, 0, 0) := by decide +kernel
theorem op33_2 : rn_op 33 2 = some (.getfield 36, 3, 1, 0, 2) := by decide +kernel
theorem op33_5 : rn_op 33 5 = some (.putfield 36, 3, 1, 0, 2) := by decide +kernel
theorem op33_8 : rn_op 33 8 = some (.aload_n 0, 1, 0, 0, 0) := by decide +kernel
theorem op33_9 : rn_op 33 9 = some (.aload_n 1, 1, 0, 0, 0) := by decide +kernel
theorem op33_10 : rn_op 33 10 = some (.getfield 9, 3, 1, 1, 0) := by decide +kernel
theorem op33_13 : rn_op 33 13 = some (.putfield 9, 3, 1, 1, 0) := by decide +kernel
theorem op33_16 : rn_op 33 16 = some (.aload_n 0, 1, 0, 0, 0) := by decide +kernel
theorem op33_17 : rn_op 33 17 = some (.aload_n 1, 1, 0, 0, 0) := by decide +kernel
theorem op33_18 : rn_op 33 18 = some (.getfield 15, 3, 1, 2, 0) := by decide +kernel
theorem op33_21 : rn_op 33 21 = some (.putfield 15, 3, 1, 2, 0) := by decide +kernel
theorem op33_24 : rn_op 33 24 = some (.aload_n 0, 1, 0, 0, 0) := by decide +kernel
theorem op33_25 : rn_op 33 25 = some (.aload_n 1, 1, 0, 0, 0) := by decide +kernel
theorem op33_26 : rn_op 33 26 = some (.getfield 24, 3, 1, 3, 0) := by decide +kernel
theorem op33_29 : rn_op 33 29 = some (.putfield 24, 3, 1, 3, 0) := by decide +kernel
theorem op33_32 : rn_op 33 32 = some (.aload_n 0, 1, 0, 0, 0) := by decide +kernel
theorem op33_33 : rn_op 33 33 = some (.aload_n 1, 1, 0, 0, 0) := by decide +kernel
theorem op33_34 : rn_op 33 34 = some (.getfield 18, 3, 1, 4, 0) := by decide +kernel
theorem op33_37 : rn_op 33 37 = some (.putfield 18, 3, 1, 4, 0) := by decide +kernel
theorem op33_40 : rn_op 33 40 = some (.aload_n 0, 1, 0, 0, 0) := by decide +kernel
theorem op33_41 : rn_op 33 41 = some (.aload_n 1, 1, 0, 0, 0) := by decide +kernel
theorem op33_42 : rn_op 33 42 = some (.getfield 27, 3, 1, 5, 0) := by decide +kernel
theorem op33_45 : rn_op 33 45 = some (.putfield 27, 3, 1, 5, 0) := by decide +kernel
theorem op33_48 : rn_op 33 48 = some (.aload_n 0, 1, 0, 0, 0) := by decide +kernel
theorem op33_49 : rn_op 33 49 = some (.aload_n 1, 1, 0, 0, 0) := by decide +kernel
theorem op33_50 : rn_op 33 50 = some (.getfield 30, 3, 1, 6, 0) := by decide +kernel
theorem op33_53 : rn_op 33 53 = some (.putfield 30, 3, 1, 6, 0) := by decide +kernel
theorem op33_56 : rn_op 33 56 = some (.aload_n 0, 1, 0, 0, 0) := by decide +kernel
theorem op33_57 : rn_op 33 57 = some (.aload_n 1, 1, 0, 0, 0) := by decide +kernel
theorem op33_58 : rn_op 33 58 = some (.getfield 33, 3, 1, 7, 0) := by decide +kernel
theorem op33_61 : rn_op 33 61 = some (.putfield 33, 3, 1, 7, 0) := by decide +kernel
theorem op33_64 : rn_op 33 64 = some (.aload_n 0, 1, 0, 0, 0) := by decide +kernel
theorem op33_65 : rn_op 33 65 = some (.aload_n 1, 1, 0, 0, 0) := by decide +kernel
theorem op33_66 : rn_op 33 66 = some (.getfield 21, 3, 1, 8, 0) := by decide +kernel
theorem op33_69 : rn_op 33 69 = some (.putfield 21, 3, 1, 8, 0) := by decide +kernel
theorem op33_72 : rn_op 33 72 = some (.return_, 1, 0, 0, 0) := by decide +kernel
def ga_copy (n : Nat) (q0 : Nat) (q1 : Nat) (m : rn_Mem) : Option (rn_Mem) :=
  if (m.1 q1 0) = 0 ∨ (m.1 q1 0) = 1 then
    (some (rm_i m q0 0 (m.1 q1 0))).bind fun (m1 : rn_Mem) =>
    (some (rm_i m1 q0 1 (m1.1 q1 1))).bind fun (m3 : rn_Mem) =>
    (some (rm_i m3 q0 2 (m3.1 q1 2))).bind fun (m4 : rn_Mem) =>
    (some (rm_i m4 q0 3 (m4.1 q1 3))).bind fun (m5 : rn_Mem) =>
    (some (rm_i m5 q0 4 (m5.1 q1 4))).bind fun (m6 : rn_Mem) =>
    (some (rm_i m6 q0 5 (m6.1 q1 5))).bind fun (m7 : rn_Mem) =>
    (some (rm_i m7 q0 6 (m7.1 q1 6))).bind fun (m8 : rn_Mem) =>
    (some (rm_i m8 q0 7 (m8.1 q1 7))).bind fun (m9 : rn_Mem) =>
    (some (rm_i m9 q0 8 (m9.1 q1 8))).bind fun (m10 : rn_Mem) =>
    some m10
  else none
set_option maxHeartbeats 4000000 in
set_option maxRecDepth 20000 in
theorem ga_copy_ok (xs : List Int32) {d : Nat} (hd : 0 ≤ d) {n : Nat} {q0 : Nat} {q1 : Nat} {m mO : rn_Mem} (hq0 : sA_Game q0) (hq1 : sA_Game q1) (h : ga_copy n q0 q1 m = some mO) : rn_R xs d 33 0 (rn_ent 2 [.ref q0, .ref q1]) [] (rn_SH, m) none (rn_SH, mO) := by
  unfold ga_copy at h
  show rn_R xs d 33 0 [some (.ref q0), some (.ref q1)] [] (rn_SH, m) none (rn_SH, mO)
  refine rx_p (L2 := [some (.ref q0), some (.ref q1)]) (S2 := [.ref q0]) (pc2 := 1) op33_0 rfl rfl ?_
  refine rx_p (L2 := [some (.ref q0), some (.ref q1)]) (S2 := [.ref q1, .ref q0]) (pc2 := 2) op33_1 rfl rfl ?_
  refine rx_gf (v := .int (m.1 q1 0)) (pc2 := 5) op33_2 hq1 rfl rfl rfl ?_
  obtain ⟨k2, h⟩ := rq_chk h
  obtain ⟨m1, em1, h⟩ := rq_bv h
  refine rx_pz (m2 := m1) (pc2 := 8) op33_5 hq0 rfl k2 em1 rfl ?_
  refine rx_p (L2 := [some (.ref q0), some (.ref q1)]) (S2 := [.ref q0]) (pc2 := 9) op33_8 rfl rfl ?_
  refine rx_p (L2 := [some (.ref q0), some (.ref q1)]) (S2 := [.ref q1, .ref q0]) (pc2 := 10) op33_9 rfl rfl ?_
  refine rx_gf (v := .int (m1.1 q1 1)) (pc2 := 13) op33_10 hq1 rfl rfl rfl ?_
  obtain ⟨m3, em3, h⟩ := rq_bv h
  refine rx_pf (m2 := m3) (pc2 := 16) op33_13 hq0 rfl em3 rfl ?_
  refine rx_p (L2 := [some (.ref q0), some (.ref q1)]) (S2 := [.ref q0]) (pc2 := 17) op33_16 rfl rfl ?_
  refine rx_p (L2 := [some (.ref q0), some (.ref q1)]) (S2 := [.ref q1, .ref q0]) (pc2 := 18) op33_17 rfl rfl ?_
  refine rx_gf (v := .int (m3.1 q1 2)) (pc2 := 21) op33_18 hq1 rfl rfl rfl ?_
  obtain ⟨m4, em4, h⟩ := rq_bv h
  refine rx_pf (m2 := m4) (pc2 := 24) op33_21 hq0 rfl em4 rfl ?_
  refine rx_p (L2 := [some (.ref q0), some (.ref q1)]) (S2 := [.ref q0]) (pc2 := 25) op33_24 rfl rfl ?_
  refine rx_p (L2 := [some (.ref q0), some (.ref q1)]) (S2 := [.ref q1, .ref q0]) (pc2 := 26) op33_25 rfl rfl ?_
  refine rx_gf (v := .int (m4.1 q1 3)) (pc2 := 29) op33_26 hq1 rfl rfl rfl ?_
  obtain ⟨m5, em5, h⟩ := rq_bv h
  refine rx_pf (m2 := m5) (pc2 := 32) op33_29 hq0 rfl em5 rfl ?_
  refine rx_p (L2 := [some (.ref q0), some (.ref q1)]) (S2 := [.ref q0]) (pc2 := 33) op33_32 rfl rfl ?_
  refine rx_p (L2 := [some (.ref q0), some (.ref q1)]) (S2 := [.ref q1, .ref q0]) (pc2 := 34) op33_33 rfl rfl ?_
  refine rx_gf (v := .int (m5.1 q1 4)) (pc2 := 37) op33_34 hq1 rfl rfl rfl ?_
  obtain ⟨m6, em6, h⟩ := rq_bv h
  refine rx_pf (m2 := m6) (pc2 := 40) op33_37 hq0 rfl em6 rfl ?_
  refine rx_p (L2 := [some (.ref q0), some (.ref q1)]) (S2 := [.ref q0]) (pc2 := 41) op33_40 rfl rfl ?_
  refine rx_p (L2 := [some (.ref q0), some (.ref q1)]) (S2 := [.ref q1, .ref q0]) (pc2 := 42) op33_41 rfl rfl ?_
  refine rx_gf (v := .int (m6.1 q1 5)) (pc2 := 45) op33_42 hq1 rfl rfl rfl ?_
  obtain ⟨m7, em7, h⟩ := rq_bv h
  refine rx_pf (m2 := m7) (pc2 := 48) op33_45 hq0 rfl em7 rfl ?_
  refine rx_p (L2 := [some (.ref q0), some (.ref q1)]) (S2 := [.ref q0]) (pc2 := 49) op33_48 rfl rfl ?_
  refine rx_p (L2 := [some (.ref q0), some (.ref q1)]) (S2 := [.ref q1, .ref q0]) (pc2 := 50) op33_49 rfl rfl ?_
  refine rx_gf (v := .int (m7.1 q1 6)) (pc2 := 53) op33_50 hq1 rfl rfl rfl ?_
  obtain ⟨m8, em8, h⟩ := rq_bv h
  refine rx_pf (m2 := m8) (pc2 := 56) op33_53 hq0 rfl em8 rfl ?_
  refine rx_p (L2 := [some (.ref q0), some (.ref q1)]) (S2 := [.ref q0]) (pc2 := 57) op33_56 rfl rfl ?_
  refine rx_p (L2 := [some (.ref q0), some (.ref q1)]) (S2 := [.ref q1, .ref q0]) (pc2 := 58) op33_57 rfl rfl ?_
  refine rx_gf (v := .int (m8.1 q1 7)) (pc2 := 61) op33_58 hq1 rfl rfl rfl ?_
  obtain ⟨m9, em9, h⟩ := rq_bv h
  refine rx_pf (m2 := m9) (pc2 := 64) op33_61 hq0 rfl em9 rfl ?_
  refine rx_p (L2 := [some (.ref q0), some (.ref q1)]) (S2 := [.ref q0]) (pc2 := 65) op33_64 rfl rfl ?_
  refine rx_p (L2 := [some (.ref q0), some (.ref q1)]) (S2 := [.ref q1, .ref q0]) (pc2 := 66) op33_65 rfl rfl ?_
  refine rx_gf (v := .int (m9.1 q1 8)) (pc2 := 69) op33_66 hq1 rfl rfl rfl ?_
  obtain ⟨m10, em10, h⟩ := rq_bv h
  refine rx_pf (m2 := m10) (pc2 := 72) op33_69 hq0 rfl em10 rfl ?_
  obtain rfl := Option.some.inj h
  exact ry_rv op33_72 ms_33 rfl
/-! st_open -/
theorem op32_0 : rn_op 32 0 = some (.aload_n 0, 1, 0, 0, 0) := by decide +kernel
theorem op32_1 : rn_op 32 1 = some (.getfield 10, 3, 6, 0, 3) := by decide +kernel
theorem op32_4 : rn_op 32 4 = some (.aload_n 1, 1, 0, 0, 0) := by decide +kernel
theorem op32_5 : rn_op 32 5 = some (.invokevirtual 37, 3, 33, 2, 1) := by decide +kernel
theorem op32_8 : rn_op 32 8 = some (.aload_n 0, 1, 0, 0, 0) := by decide +kernel
theorem op32_9 : rn_op 32 9 = some (.getfield 19, 3, 6, 1, 3) := by decide +kernel
theorem op32_12 : rn_op 32 12 = some (.iconst 0, 1, 0, 0, 0) := by decide +kernel
theorem op32_13 : rn_op 32 13 = some (.putfield 41, 3, 7, 0, 2) := by decide +kernel
theorem op32_16 : rn_op 32 16 = some (.aload_n 0, 1, 0, 0, 0) := by decide +kernel
theorem op32_17 : rn_op 32 17 = some (.getfield 26, 3, 6, 2, 3) := by decide +kernel
theorem op32_20 : rn_op 32 20 = some (.iconst 0, 1, 0, 0, 0) := by decide +kernel
theorem op32_21 : rn_op 32 21 = some (.putfield 45, 3, 0, 0, 0) := by decide +kernel
theorem op32_24 : rn_op 32 24 = some (.aload_n 0, 1, 0, 0, 0) := by decide +kernel
theorem op32_25 : rn_op 32 25 = some (.getfield 33, 3, 6, 3, 3) := by decide +kernel
theorem op32_28 : rn_op 32 28 = some (.iconst 0, 1, 0, 0, 0) := by decide +kernel
theorem op32_29 : rn_op 32 29 = some (.putfield 49, 3, 3, 0, 2) := by decide +kernel
theorem op32_32 : rn_op 32 32 = some (.return_, 1, 0, 0, 0) := by decide +kernel
def st_open (n : Nat) (q0 : Nat) (q1 : Nat) (m : rn_Mem) : Option (rn_Mem) :=
  (ga_copy n (q0 + 1) q1 m).bind fun m1 =>
  (some (rm_i m1 (q0 + 2) 0 0)).bind fun (m3 : rn_Mem) =>
  (some (rm_i m3 (q0 + 6) 0 0)).bind fun (m4 : rn_Mem) =>
  (some (rm_i m4 (q0 + 11) 0 0)).bind fun (m5 : rn_Mem) =>
  some m5
set_option maxHeartbeats 4000000 in
set_option maxRecDepth 20000 in
theorem st_open_ok (xs : List Int32) {d : Nat} (hd : 1 ≤ d) {n : Nat} {q0 : Nat} {q1 : Nat} {m mO : rn_Mem} (hq0 : sA_State q0) (hq1 : sA_Game q1) (h : st_open n q0 q1 m = some mO) : rn_R xs d 32 0 (rn_ent 2 [.ref q0, .ref q1]) [] (rn_SH, m) none (rn_SH, mO) := by
  obtain ⟨d, rfl⟩ : ∃ e, d = e + 1 := ⟨d - 1, by omega⟩
  unfold st_open at h
  show rn_R xs (d + 1) 32 0 [some (.ref q0), some (.ref q1)] [] (rn_SH, m) none (rn_SH, mO)
  refine rx_p (L2 := [some (.ref q0), some (.ref q1)]) (S2 := [.ref q0]) (pc2 := 1) op32_0 rfl rfl ?_
  refine rx_gf (v := .ref (q0 + 1)) (pc2 := 4) op32_1 (hq0.1) rfl rfl rfl ?_
  refine rx_p (L2 := [some (.ref q0), some (.ref q1)]) (S2 := [.ref q1, .ref (q0 + 1)]) (pc2 := 5) op32_4 rfl rfl ?_
  obtain ⟨m1, f2, h⟩ := rq_bind h
  try dsimp only at h
  refine ry_iv (p := (q0 + 1)) (vs := [.ref q1]) (T := []) (pc2 := 8) op32_5 ms_33 (by decide) rfl rfl (Nat.le_of_ble_eq_true rfl) (Nat.le_of_ble_eq_true rfl) (hq0.2.1) (ga_copy_ok xs (by omega) (hq0.2.1) hq1 f2) rfl ?_
  show rn_R _ _ _ _ _ [] _ _ _
  refine rx_p (L2 := [some (.ref q0), some (.ref q1)]) (S2 := [.ref q0]) (pc2 := 9) op32_8 rfl rfl ?_
  refine rx_gf (v := .ref (q0 + 2)) (pc2 := 12) op32_9 (hq0.1) rfl rfl rfl ?_
  refine rx_ic (v := 0) (pc2 := 13) op32_12 (by decide) rfl ?_
  obtain ⟨m3, em3, h⟩ := rq_bv h
  refine rx_pz (m2 := m3) (pc2 := 16) op32_13 (hq0.2.2.1.1) rfl (by decide) em3 rfl ?_
  refine rx_p (L2 := [some (.ref q0), some (.ref q1)]) (S2 := [.ref q0]) (pc2 := 17) op32_16 rfl rfl ?_
  refine rx_gf (v := .ref (q0 + 6)) (pc2 := 20) op32_17 (hq0.1) rfl rfl rfl ?_
  refine rx_ic (v := 0) (pc2 := 21) op32_20 (by decide) rfl ?_
  obtain ⟨m4, em4, h⟩ := rq_bv h
  refine rx_pf (m2 := m4) (pc2 := 24) op32_21 (hq0.2.2.2.1.1) rfl em4 rfl ?_
  refine rx_p (L2 := [some (.ref q0), some (.ref q1)]) (S2 := [.ref q0]) (pc2 := 25) op32_24 rfl rfl ?_
  refine rx_gf (v := .ref (q0 + 11)) (pc2 := 28) op32_25 (hq0.1) rfl rfl rfl ?_
  refine rx_ic (v := 0) (pc2 := 29) op32_28 (by decide) rfl ?_
  obtain ⟨m5, em5, h⟩ := rq_bv h
  refine rx_pz (m2 := m5) (pc2 := 32) op32_29 (hq0.2.2.2.2.1) rfl (by decide) em5 rfl ?_
  obtain rfl := Option.some.inj h
  exact ry_rv op32_32 ms_32 rfl
/-! lt_game -/
theorem op15_0 : rn_op 15 0 = some (.aload_n 0, 1, 0, 0, 0) := by decide +kernel
theorem op15_1 : rn_op 15 1 = some (.getfield 12, 3, 10, 0, 3) := by decide +kernel
theorem op15_4 : rn_op 15 4 = some (.aload_n 0, 1, 0, 0, 0) := by decide +kernel
theorem op15_5 : rn_op 15 5 = some (.getfield 26, 3, 10, 3, 3) := by decide +kernel
theorem op15_8 : rn_op 15 8 = some (.getfield 62, 3, 6, 0, 3) := by decide +kernel
theorem op15_11 : rn_op 15 11 = some (.invokevirtual 66, 3, 16, 2, 8) := by decide +kernel
theorem op15_14 : rn_op 15 14 = some (.istore_n 1, 1, 0, 0, 0) := by decide +kernel
theorem op15_15 : rn_op 15 15 = some (.aload_n 0, 1, 0, 0, 0) := by decide +kernel
theorem op15_16 : rn_op 15 16 = some (.getfield 12, 3, 10, 0, 3) := by decide +kernel
theorem op15_19 : rn_op 15 19 = some (.invokevirtual 70, 3, 30, 1, 8) := by decide +kernel
theorem op15_22 : rn_op 15 22 = some (.istore_n 2, 1, 0, 0, 0) := by decide +kernel
theorem op15_23 : rn_op 15 23 = some (.aload_n 0, 1, 0, 0, 0) := by decide +kernel
theorem op15_24 : rn_op 15 24 = some (.getfield 12, 3, 10, 0, 3) := by decide +kernel
theorem op15_27 : rn_op 15 27 = some (.invokevirtual 74, 3, 31, 1, 8) := by decide +kernel
theorem op15_30 : rn_op 15 30 = some (.iload_n 1, 1, 0, 0, 0) := by decide +kernel
theorem op15_31 : rn_op 15 31 = some (.ifCond .ne 5, 3, 0, 0, 0) := by decide +kernel
theorem op15_34 : rn_op 15 34 = some (.iload_n 2, 1, 0, 0, 0) := by decide +kernel
theorem op15_35 : rn_op 15 35 = some (.ireturn, 1, 0, 0, 0) := by decide +kernel
theorem op15_36 : rn_op 15 36 = some (.aload_n 0, 1, 0, 0, 0) := by decide +kernel
theorem op15_37 : rn_op 15 37 = some (.getfield 19, 3, 10, 1, 3) := by decide +kernel
theorem op15_40 : rn_op 15 40 = some (.aload_n 0, 1, 0, 0, 0) := by decide +kernel
theorem op15_41 : rn_op 15 41 = some (.getfield 26, 3, 10, 3, 3) := by decide +kernel
theorem op15_44 : rn_op 15 44 = some (.getfield 62, 3, 6, 0, 3) := by decide +kernel
theorem op15_47 : rn_op 15 47 = some (.invokevirtual 77, 3, 32, 2, 6) := by decide +kernel
theorem op15_50 : rn_op 15 50 = some (.aload_n 0, 1, 0, 0, 0) := by decide +kernel
theorem op15_51 : rn_op 15 51 = some (.iconst 0, 1, 0, 0, 0) := by decide +kernel
theorem op15_52 : rn_op 15 52 = some (.putfield 81, 3, 10, 8, 0) := by decide +kernel
theorem op15_55 : rn_op 15 55 = some (.aload_n 0, 1, 0, 0, 0) := by decide +kernel
theorem op15_56 : rn_op 15 56 = some (.getfield 19, 3, 10, 1, 3) := by decide +kernel
theorem op15_59 : rn_op 15 59 = some (.getfield 62, 3, 6, 0, 3) := by decide +kernel
theorem op15_62 : rn_op 15 62 = some (.invokevirtual 84, 3, 23, 1, 1) := by decide +kernel
theorem op15_65 : rn_op 15 65 = some (.ireturn, 1, 0, 0, 0) := by decide +kernel
def lt_game (n : Nat)  (m : rn_Mem) : Option (Int32 × rn_Mem) :=
  (tp_readGame n 36 m).bind fun (r2, m1) =>
  (tp_fault n m1).bind fun (r5, m4) =>
  (tp_clear n m4).bind fun m7 =>
  if r2 = 0 then
    some (r5, m7)
  else
    (st_open n 3 36 m7).bind fun m10 =>
    (some (rm_i m10 0 8 0)).bind fun (m12 : rn_Mem) =>
    (ga_cards n 4 m12).bind fun (r14, m13) =>
    some (r14, m13)
set_option maxHeartbeats 4000000 in
set_option maxRecDepth 20000 in
theorem lt_game_ok (xs : List Int32) {d : Nat} (hd : 5 ≤ d) {n : Nat} {m mO : rn_Mem} {rO : Int32} (h : lt_game n  m = some (rO, mO)) : rn_R xs d 15 0 (rn_ent 3 [.ref 0]) [] (rn_SH, m) (some (.int rO)) (rn_SH, mO) := by
  obtain ⟨d, rfl⟩ : ∃ e, d = e + 1 := ⟨d - 1, by omega⟩
  unfold lt_game at h
  show rn_R xs (d + 1) 15 0 [some (.ref 0), none, none] [] (rn_SH, m) (some (.int rO)) (rn_SH, mO)
  refine rx_p (L2 := [some (.ref 0), none, none]) (S2 := [.ref 0]) (pc2 := 1) op15_0 rfl rfl ?_
  refine rx_gf (v := .ref 1) (pc2 := 4) op15_1 sp_0 rfl rfl rfl ?_
  refine rx_p (L2 := [some (.ref 0), none, none]) (S2 := [.ref 0, .ref 1]) (pc2 := 5) op15_4 rfl rfl ?_
  refine rx_gf (v := .ref 35) (pc2 := 8) op15_5 sp_0 rfl rfl rfl ?_
  refine rx_gf (v := .ref 36) (pc2 := 11) op15_8 sp_35 rfl rfl rfl ?_
  obtain ⟨⟨r2, m1⟩, f3, h⟩ := rq_bind h
  try dsimp only at h
  refine ry_iv (p := 1) (vs := [.ref 36]) (T := []) (pc2 := 14) op15_11 ms_16 (by decide) rfl rfl (Nat.le_of_ble_eq_true rfl) (Nat.le_of_ble_eq_true rfl) sp_1 (tp_readGame_ok xs (by omega) sa_36 f3) rfl ?_
  show rn_R _ _ _ _ _ [.int r2] _ _ _
  refine rx_s (L2 := [some (.ref 0), some (.int r2), none]) (pc2 := 15) op15_14 rfl rfl rfl ?_
  refine rx_p (L2 := [some (.ref 0), some (.int r2), none]) (S2 := [.ref 0]) (pc2 := 16) op15_15 rfl rfl ?_
  refine rx_gf (v := .ref 1) (pc2 := 19) op15_16 sp_0 rfl rfl rfl ?_
  obtain ⟨⟨r5, m4⟩, f6, h⟩ := rq_bind h
  try dsimp only at h
  refine ry_iv (p := 1) (vs := []) (T := []) (pc2 := 22) op15_19 ms_30 (by decide) rfl rfl (Nat.le_of_ble_eq_true rfl) (Nat.le_of_ble_eq_true rfl) sp_1 (tp_fault_ok xs (by omega)  f6) rfl ?_
  show rn_R _ _ _ _ _ [.int r5] _ _ _
  refine rx_s (L2 := [some (.ref 0), some (.int r2), some (.int r5)]) (pc2 := 23) op15_22 rfl rfl rfl ?_
  refine rx_p (L2 := [some (.ref 0), some (.int r2), some (.int r5)]) (S2 := [.ref 0]) (pc2 := 24) op15_23 rfl rfl ?_
  refine rx_gf (v := .ref 1) (pc2 := 27) op15_24 sp_0 rfl rfl rfl ?_
  obtain ⟨m7, f8, h⟩ := rq_bind h
  try dsimp only at h
  refine ry_iv (p := 1) (vs := []) (T := []) (pc2 := 30) op15_27 ms_31 (by decide) rfl rfl (Nat.le_of_ble_eq_true rfl) (Nat.le_of_ble_eq_true rfl) sp_1 (tp_clear_ok xs (by omega)  f8) rfl ?_
  show rn_R _ _ _ _ _ [] _ _ _
  refine rx_p (L2 := [some (.ref 0), some (.int r2), some (.int r5)]) (S2 := [.int r2]) (pc2 := 31) op15_30 rfl rfl ?_
  refine ry_if_ne (tgt := 36) (pc2 := 34) op15_31 (by decide) (by decide) rfl (fun b9 => ?_) (fun b9 => ?_)
  · have h := (if_pos b9).symm.trans h
    refine rx_p (L2 := [some (.ref 0), some (.int r2), some (.int r5)]) (S2 := [.int r5]) (pc2 := 35) op15_34 rfl rfl ?_
    obtain ⟨rfl, rfl⟩ := rq_ret h
    exact ry_ri op15_35 ms_15 rfl
  · have h := (if_neg b9).symm.trans h
    refine rx_p (L2 := [some (.ref 0), some (.int r2), some (.int r5)]) (S2 := [.ref 0]) (pc2 := 37) op15_36 rfl rfl ?_
    refine rx_gf (v := .ref 3) (pc2 := 40) op15_37 sp_0 rfl rfl rfl ?_
    refine rx_p (L2 := [some (.ref 0), some (.int r2), some (.int r5)]) (S2 := [.ref 0, .ref 3]) (pc2 := 41) op15_40 rfl rfl ?_
    refine rx_gf (v := .ref 35) (pc2 := 44) op15_41 sp_0 rfl rfl rfl ?_
    refine rx_gf (v := .ref 36) (pc2 := 47) op15_44 sp_35 rfl rfl rfl ?_
    obtain ⟨m10, f11, h⟩ := rq_bind h
    try dsimp only at h
    refine ry_iv (p := 3) (vs := [.ref 36]) (T := []) (pc2 := 50) op15_47 ms_32 (by decide) rfl rfl (Nat.le_of_ble_eq_true rfl) (Nat.le_of_ble_eq_true rfl) sp_3 (st_open_ok xs (by omega) sa_3 sa_36 f11) rfl ?_
    show rn_R _ _ _ _ _ [] _ _ _
    refine rx_p (L2 := [some (.ref 0), some (.int r2), some (.int r5)]) (S2 := [.ref 0]) (pc2 := 51) op15_50 rfl rfl ?_
    refine rx_ic (v := 0) (pc2 := 52) op15_51 (by decide) rfl ?_
    obtain ⟨m12, em12, h⟩ := rq_bv h
    refine rx_pf (m2 := m12) (pc2 := 55) op15_52 sp_0 rfl em12 rfl ?_
    refine rx_p (L2 := [some (.ref 0), some (.int r2), some (.int r5)]) (S2 := [.ref 0]) (pc2 := 56) op15_55 rfl rfl ?_
    refine rx_gf (v := .ref 3) (pc2 := 59) op15_56 sp_0 rfl rfl rfl ?_
    refine rx_gf (v := .ref 4) (pc2 := 62) op15_59 sp_3 rfl rfl rfl ?_
    obtain ⟨⟨r14, m13⟩, f15, h⟩ := rq_bind h
    try dsimp only at h
    refine ry_iv (p := 4) (vs := []) (T := []) (pc2 := 65) op15_62 ms_23 (by decide) rfl rfl (Nat.le_of_ble_eq_true rfl) (Nat.le_of_ble_eq_true rfl) sp_4 (ga_cards_ok xs (by omega) sa_4 f15) rfl ?_
    show rn_R _ _ _ _ _ [.int r14] _ _ _
    obtain ⟨rfl, rfl⟩ := rq_ret h
    exact ry_ri op15_65 ms_15 rfl
/-! ta_clear -/
theorem op36_0 : rn_op 36 0 = some (.aload_n 0, 1, 0, 0, 0) := by decide +kernel
theorem op36_1 : rn_op 36 1 = some (.iconst 1, 1, 0, 0, 0) := by decide +kernel
theorem op36_2 : rn_op 36 2 = some (.putfield 21, 3, 7, 0, 2) := by decide +kernel
theorem op36_5 : rn_op 36 5 = some (.aload_n 0, 1, 0, 0, 0) := by decide +kernel
theorem op36_6 : rn_op 36 6 = some (.iconst 0, 1, 0, 0, 0) := by decide +kernel
theorem op36_7 : rn_op 36 7 = some (.putfield 25, 3, 7, 4, 0) := by decide +kernel
theorem op36_10 : rn_op 36 10 = some (.aload_n 0, 1, 0, 0, 0) := by decide +kernel
theorem op36_11 : rn_op 36 11 = some (.iconst 0, 1, 0, 0, 0) := by decide +kernel
theorem op36_12 : rn_op 36 12 = some (.putfield 29, 3, 7, 5, 0) := by decide +kernel
theorem op36_15 : rn_op 36 15 = some (.aload_n 0, 1, 0, 0, 0) := by decide +kernel
theorem op36_16 : rn_op 36 16 = some (.iconst 0, 1, 0, 0, 0) := by decide +kernel
theorem op36_17 : rn_op 36 17 = some (.putfield 32, 3, 7, 6, 0) := by decide +kernel
theorem op36_20 : rn_op 36 20 = some (.iconst 0, 1, 0, 0, 0) := by decide +kernel
theorem op36_21 : rn_op 36 21 = some (.istore_n 1, 1, 0, 0, 0) := by decide +kernel
theorem op36_22 : rn_op 36 22 = some (.iload_n 1, 1, 0, 0, 0) := by decide +kernel
theorem op36_23 : rn_op 36 23 = some (.iconst 4, 1, 0, 0, 0) := by decide +kernel
theorem op36_24 : rn_op 36 24 = some (.if_icmp .ge 23, 3, 0, 0, 0) := by decide +kernel
theorem op36_27 : rn_op 36 27 = some (.aload_n 0, 1, 0, 0, 0) := by decide +kernel
theorem op36_28 : rn_op 36 28 = some (.getfield 9, 3, 7, 1, 3) := by decide +kernel
theorem op36_31 : rn_op 36 31 = some (.iload_n 1, 1, 0, 0, 0) := by decide +kernel
theorem op36_32 : rn_op 36 32 = some (.iconst 0, 1, 0, 0, 0) := by decide +kernel
theorem op36_33 : rn_op 36 33 = some (.iastore, 1, 0, 0, 0) := by decide +kernel
theorem op36_34 : rn_op 36 34 = some (.aload_n 0, 1, 0, 0, 0) := by decide +kernel
theorem op36_35 : rn_op 36 35 = some (.getfield 15, 3, 7, 2, 3) := by decide +kernel
theorem op36_38 : rn_op 36 38 = some (.iload_n 1, 1, 0, 0, 0) := by decide +kernel
theorem op36_39 : rn_op 36 39 = some (.iconst 0, 1, 0, 0, 0) := by decide +kernel
theorem op36_40 : rn_op 36 40 = some (.iastore, 1, 0, 0, 0) := by decide +kernel
theorem op36_41 : rn_op 36 41 = some (.iinc 1 1, 3, 0, 0, 0) := by decide +kernel
theorem op36_44 : rn_op 36 44 = some (.goto (-22), 3, 0, 0, 0) := by decide +kernel
theorem op36_47 : rn_op 36 47 = some (.return_, 1, 0, 0, 0) := by decide +kernel
def ta_clear_l22 (q0 : Nat) : Nat → Int32 → rn_Mem → Option (rn_Mem)
  | 0, _, _ => none
  | n + 1, a1, m =>
    if a1 < 4 then
      if rn_in a1 4 = true then
        (some (rm_i m (q0 + 1) a1.toNatClampNeg 0)).bind fun (m6 : rn_Mem) =>
        if rn_in a1 4 = true then
          (some (rm_i m6 (q0 + 2) a1.toNatClampNeg 0)).bind fun (m8 : rn_Mem) =>
          (some (a1 + 1)).bind fun (x10 : Int32) =>
          ta_clear_l22 q0 n x10 m8
        else none
      else none
    else
      some m
def ta_clear (n : Nat) (q0 : Nat) (m : rn_Mem) : Option (rn_Mem) :=
  (some (rm_i m q0 0 1)).bind fun (m1 : rn_Mem) =>
  (some (rm_i m1 q0 4 0)).bind fun (m2 : rn_Mem) =>
  (some (rm_i m2 q0 5 0)).bind fun (m3 : rn_Mem) =>
  (some (rm_i m3 q0 6 0)).bind fun (m4 : rn_Mem) =>
  (ta_clear_l22 q0 n 0 m4).bind fun m11 =>
  some m11
set_option maxHeartbeats 4000000 in
set_option maxRecDepth 20000 in
theorem ta_clear_l22_ok (xs : List Int32) {d : Nat} {q0 : Nat} {r : Option Value} {τ : rn_H} {out : rn_Mem} (hr : ∀ (mO : rn_Mem), out = mO → ∀ (o0 o1 : Option Value), rn_R xs d 36 47 [o0, o1] [] (rn_SH, mO) r τ) : ∀ (n : Nat) (a1 : Int32) (m : rn_Mem), sA_Table q0 → ta_clear_l22 q0 n a1 m = some out → rn_R xs d 36 22 [some (.ref q0), some (.int a1)] [] (rn_SH, m) r τ := by
  intro n
  induction n with
  | zero =>
    intro _ _ _ h
    cases h
  | succ n ih =>
    intro a1 m hq0 h
    unfold ta_clear_l22 at h
    try dsimp only at h
    refine rx_p (L2 := [some (.ref q0), some (.int a1)]) (S2 := [.int a1]) (pc2 := 23) op36_22 rfl rfl ?_
    refine rx_ic (v := 4) (pc2 := 24) op36_23 (by decide) rfl ?_
    refine ry_ic_ge (tgt := 47) (pc2 := 27) op36_24 (by decide) (by decide) rfl (fun b5 => ?_) (fun b5 => ?_)
    · have h := (if_pos b5).symm.trans h
      refine rx_p (L2 := [some (.ref q0), some (.int a1)]) (S2 := [.ref q0]) (pc2 := 28) op36_27 rfl rfl ?_
      refine rx_gf (v := .ref (q0 + 1)) (pc2 := 31) op36_28 (hq0.1) rfl rfl rfl ?_
      refine rx_p (L2 := [some (.ref q0), some (.int a1)]) (S2 := [.int a1, .ref (q0 + 1)]) (pc2 := 32) op36_31 rfl rfl ?_
      refine rx_ic (v := 0) (pc2 := 33) op36_32 (by decide) rfl ?_
      obtain ⟨k7, h⟩ := rq_chk h
      obtain ⟨m6, em6, h⟩ := rq_bv h
      refine rx_is (m2 := m6) (pc2 := 34) op36_33 (hq0.2.1) k7 rfl em6 rfl ?_
      refine rx_p (L2 := [some (.ref q0), some (.int a1)]) (S2 := [.ref q0]) (pc2 := 35) op36_34 rfl rfl ?_
      refine rx_gf (v := .ref (q0 + 2)) (pc2 := 38) op36_35 (hq0.1) rfl rfl rfl ?_
      refine rx_p (L2 := [some (.ref q0), some (.int a1)]) (S2 := [.int a1, .ref (q0 + 2)]) (pc2 := 39) op36_38 rfl rfl ?_
      refine rx_ic (v := 0) (pc2 := 40) op36_39 (by decide) rfl ?_
      obtain ⟨k9, h⟩ := rq_chk h
      obtain ⟨m8, em8, h⟩ := rq_bv h
      refine rx_is (m2 := m8) (pc2 := 41) op36_40 (hq0.2.2.1) k9 rfl em8 rfl ?_
      obtain ⟨x10, ex10, h⟩ := rq_bv h
      refine rx_inc (w := 1) (v := x10) (L2 := [some (.ref q0), some (.int x10)]) (pc2 := 44) op36_41 rfl (by decide) ex10 rfl rfl ?_
      refine ry_go (tgt := 22) op36_44 (by decide) (by decide) ?_
      exact ih _ _ hq0 h
    · have h := (if_neg b5).symm.trans h
      cases h
      exact hr _ rfl _ _
set_option maxHeartbeats 4000000 in
set_option maxRecDepth 20000 in
theorem ta_clear_ok (xs : List Int32) {d : Nat} (hd : 0 ≤ d) {n : Nat} {q0 : Nat} {m mO : rn_Mem} (hq0 : sA_Table q0) (h : ta_clear n q0 m = some mO) : rn_R xs d 36 0 (rn_ent 2 [.ref q0]) [] (rn_SH, m) none (rn_SH, mO) := by
  unfold ta_clear at h
  show rn_R xs d 36 0 [some (.ref q0), none] [] (rn_SH, m) none (rn_SH, mO)
  refine rx_p (L2 := [some (.ref q0), none]) (S2 := [.ref q0]) (pc2 := 1) op36_0 rfl rfl ?_
  refine rx_ic (v := 1) (pc2 := 2) op36_1 (by decide) rfl ?_
  obtain ⟨m1, em1, h⟩ := rq_bv h
  refine rx_pz (m2 := m1) (pc2 := 5) op36_2 (hq0.1) rfl (by decide) em1 rfl ?_
  refine rx_p (L2 := [some (.ref q0), none]) (S2 := [.ref q0]) (pc2 := 6) op36_5 rfl rfl ?_
  refine rx_ic (v := 0) (pc2 := 7) op36_6 (by decide) rfl ?_
  obtain ⟨m2, em2, h⟩ := rq_bv h
  refine rx_pf (m2 := m2) (pc2 := 10) op36_7 (hq0.1) rfl em2 rfl ?_
  refine rx_p (L2 := [some (.ref q0), none]) (S2 := [.ref q0]) (pc2 := 11) op36_10 rfl rfl ?_
  refine rx_ic (v := 0) (pc2 := 12) op36_11 (by decide) rfl ?_
  obtain ⟨m3, em3, h⟩ := rq_bv h
  refine rx_pf (m2 := m3) (pc2 := 15) op36_12 (hq0.1) rfl em3 rfl ?_
  refine rx_p (L2 := [some (.ref q0), none]) (S2 := [.ref q0]) (pc2 := 16) op36_15 rfl rfl ?_
  refine rx_ic (v := 0) (pc2 := 17) op36_16 (by decide) rfl ?_
  obtain ⟨m4, em4, h⟩ := rq_bv h
  refine rx_pf (m2 := m4) (pc2 := 20) op36_17 (hq0.1) rfl em4 rfl ?_
  refine rx_ic (v := 0) (pc2 := 21) op36_20 (by decide) rfl ?_
  refine rx_s (L2 := [some (.ref q0), some (.int 0)]) (pc2 := 22) op36_21 rfl rfl rfl ?_
  obtain ⟨m11, f14, h⟩ := rq_bind h
  refine ta_clear_l22_ok xs (fun m0 eq => ?_) _ _ _ hq0 f14
  subst eq
  try dsimp only at h
  intro o12 o13
  obtain rfl := Option.some.inj h
  exact ry_rv op36_47 ms_36 rfl
/-! lt_isNoChair -/
theorem op39_0 : rn_op 39 0 = some (.iload_n 0, 1, 0, 0, 0) := by decide +kernel
theorem op39_1 : rn_op 39 1 = some (.ifCond .lt 8, 3, 0, 0, 0) := by decide +kernel
theorem op39_4 : rn_op 39 4 = some (.iload_n 0, 1, 0, 0, 0) := by decide +kernel
theorem op39_5 : rn_op 39 5 = some (.iconst 4, 1, 0, 0, 0) := by decide +kernel
theorem op39_6 : rn_op 39 6 = some (.if_icmp .lt 7, 3, 0, 0, 0) := by decide +kernel
theorem op39_9 : rn_op 39 9 = some (.iconst 1, 1, 0, 0, 0) := by decide +kernel
theorem op39_10 : rn_op 39 10 = some (.goto 4, 3, 0, 0, 0) := by decide +kernel
theorem op39_13 : rn_op 39 13 = some (.iconst 0, 1, 0, 0, 0) := by decide +kernel
theorem op39_14 : rn_op 39 14 = some (.ireturn, 1, 0, 0, 0) := by decide +kernel
def lt_isNoChair (n : Nat) (a0 : Int32) (m : rn_Mem) : Option (Int32 × rn_Mem) :=
  if a0 < 0 then
    some (1, m)
  else
    if a0 < 4 then
      some (0, m)
    else
      some (1, m)
set_option maxHeartbeats 4000000 in
set_option maxRecDepth 20000 in
theorem lt_isNoChair_ok (xs : List Int32) {d : Nat} (hd : 0 ≤ d) {n : Nat} {a0 : Int32} {m mO : rn_Mem} {rO : Int32} (h : lt_isNoChair n a0 m = some (rO, mO)) : rn_R xs d 39 0 (rn_ent 1 [.int a0]) [] (rn_SH, m) (some (.int rO)) (rn_SH, mO) := by
  unfold lt_isNoChair at h
  show rn_R xs d 39 0 [some (.int a0)] [] (rn_SH, m) (some (.int rO)) (rn_SH, mO)
  refine rx_p (L2 := [some (.int a0)]) (S2 := [.int a0]) (pc2 := 1) op39_0 rfl rfl ?_
  refine ry_if_lt (tgt := 9) (pc2 := 4) op39_1 (by decide) (by decide) rfl (fun b1 => ?_) (fun b1 => ?_)
  · have h := (if_pos b1).symm.trans h
    refine rx_ic (v := 1) (pc2 := 10) op39_9 (by decide) rfl ?_
    refine ry_go (tgt := 14) op39_10 (by decide) (by decide) ?_
    obtain ⟨rfl, rfl⟩ := rq_ret h
    exact ry_rz (x := 1) op39_14 ms_39 rfl (by decide)
  · have h := (if_neg b1).symm.trans h
    refine rx_p (L2 := [some (.int a0)]) (S2 := [.int a0]) (pc2 := 5) op39_4 rfl rfl ?_
    refine rx_ic (v := 4) (pc2 := 6) op39_5 (by decide) rfl ?_
    refine ry_ic_lt (tgt := 13) (pc2 := 9) op39_6 (by decide) (by decide) rfl (fun b2 => ?_) (fun b2 => ?_)
    · have h := (if_pos b2).symm.trans h
      refine rx_ic (v := 0) (pc2 := 14) op39_13 (by decide) rfl ?_
      obtain ⟨rfl, rfl⟩ := rq_ret h
      exact ry_rz (x := 0) op39_14 ms_39 rfl (by decide)
    · have h := (if_neg b2).symm.trans h
      refine rx_ic (v := 1) (pc2 := 10) op39_9 (by decide) rfl ?_
      refine ry_go (tgt := 14) op39_10 (by decide) (by decide) ?_
      obtain ⟨rfl, rfl⟩ := rq_ret h
      exact ry_rz (x := 1) op39_14 ms_39 rfl (by decide)
/-! ta_lay -/
theorem op38_0 : rn_op 38 0 = some (.iload_n 1, 1, 0, 0, 0) := by decide +kernel
theorem op38_1 : rn_op 38 1 = some (.invokestatic 35, 3, 39, 1, 0) := by decide +kernel
theorem op38_4 : rn_op 38 4 = some (.ifCond .ne 14, 3, 0, 0, 0) := by decide +kernel
theorem op38_7 : rn_op 38 7 = some (.aload_n 0, 1, 0, 0, 0) := by decide +kernel
theorem op38_8 : rn_op 38 8 = some (.getfield 9, 3, 7, 1, 3) := by decide +kernel
theorem op38_11 : rn_op 38 11 = some (.iload_n 1, 1, 0, 0, 0) := by decide +kernel
theorem op38_12 : rn_op 38 12 = some (.iaload, 1, 0, 0, 0) := by decide +kernel
theorem op38_13 : rn_op 38 13 = some (.bipush 12, 2, 0, 0, 0) := by decide +kernel
theorem op38_15 : rn_op 38 15 = some (.if_icmp .lt 4, 3, 0, 0, 0) := by decide +kernel
theorem op38_18 : rn_op 38 18 = some (.return_, 1, 0, 0, 0) := by decide +kernel
theorem op38_19 : rn_op 38 19 = some (.aload_n 0, 1, 0, 0, 0) := by decide +kernel
theorem op38_20 : rn_op 38 20 = some (.getfield 18, 3, 7, 3, 3) := by decide +kernel
theorem op38_23 : rn_op 38 23 = some (.iload_n 1, 1, 0, 0, 0) := by decide +kernel
theorem op38_24 : rn_op 38 24 = some (.bipush 12, 2, 0, 0, 0) := by decide +kernel
theorem op38_26 : rn_op 38 26 = some (.imul, 1, 0, 0, 0) := by decide +kernel
theorem op38_27 : rn_op 38 27 = some (.aload_n 0, 1, 0, 0, 0) := by decide +kernel
theorem op38_28 : rn_op 38 28 = some (.getfield 9, 3, 7, 1, 3) := by decide +kernel
theorem op38_31 : rn_op 38 31 = some (.iload_n 1, 1, 0, 0, 0) := by decide +kernel
theorem op38_32 : rn_op 38 32 = some (.iaload, 1, 0, 0, 0) := by decide +kernel
theorem op38_33 : rn_op 38 33 = some (.iadd, 1, 0, 0, 0) := by decide +kernel
theorem op38_34 : rn_op 38 34 = some (.iload_n 2, 1, 0, 0, 0) := by decide +kernel
theorem op38_35 : rn_op 38 35 = some (.iastore, 1, 0, 0, 0) := by decide +kernel
theorem op38_36 : rn_op 38 36 = some (.aload_n 0, 1, 0, 0, 0) := by decide +kernel
theorem op38_37 : rn_op 38 37 = some (.getfield 9, 3, 7, 1, 3) := by decide +kernel
theorem op38_40 : rn_op 38 40 = some (.iload_n 1, 1, 0, 0, 0) := by decide +kernel
theorem op38_41 : rn_op 38 41 = some (.dup2, 1, 0, 0, 0) := by decide +kernel
theorem op38_42 : rn_op 38 42 = some (.iaload, 1, 0, 0, 0) := by decide +kernel
theorem op38_43 : rn_op 38 43 = some (.iconst 1, 1, 0, 0, 0) := by decide +kernel
theorem op38_44 : rn_op 38 44 = some (.iadd, 1, 0, 0, 0) := by decide +kernel
theorem op38_45 : rn_op 38 45 = some (.iastore, 1, 0, 0, 0) := by decide +kernel
theorem op38_46 : rn_op 38 46 = some (.aload_n 0, 1, 0, 0, 0) := by decide +kernel
theorem op38_47 : rn_op 38 47 = some (.dup, 1, 0, 0, 0) := by decide +kernel
theorem op38_48 : rn_op 38 48 = some (.getfield 25, 3, 7, 4, 0) := by decide +kernel
theorem op38_51 : rn_op 38 51 = some (.iconst 1, 1, 0, 0, 0) := by decide +kernel
theorem op38_52 : rn_op 38 52 = some (.iadd, 1, 0, 0, 0) := by decide +kernel
theorem op38_53 : rn_op 38 53 = some (.putfield 25, 3, 7, 4, 0) := by decide +kernel
theorem op38_56 : rn_op 38 56 = some (.iload_n 2, 1, 0, 0, 0) := by decide +kernel
theorem op38_57 : rn_op 38 57 = some (.bipush (-4), 2, 0, 0, 0) := by decide +kernel
theorem op38_59 : rn_op 38 59 = some (.if_icmp .ne 16, 3, 0, 0, 0) := by decide +kernel
theorem op38_62 : rn_op 38 62 = some (.aload_n 0, 1, 0, 0, 0) := by decide +kernel
theorem op38_63 : rn_op 38 63 = some (.dup, 1, 0, 0, 0) := by decide +kernel
theorem op38_64 : rn_op 38 64 = some (.getfield 32, 3, 7, 6, 0) := by decide +kernel
theorem op38_67 : rn_op 38 67 = some (.iconst 1, 1, 0, 0, 0) := by decide +kernel
theorem op38_68 : rn_op 38 68 = some (.iadd, 1, 0, 0, 0) := by decide +kernel
theorem op38_69 : rn_op 38 69 = some (.putfield 32, 3, 7, 6, 0) := by decide +kernel
theorem op38_72 : rn_op 38 72 = some (.goto 15, 3, 0, 0, 0) := by decide +kernel
theorem op38_75 : rn_op 38 75 = some (.aload_n 0, 1, 0, 0, 0) := by decide +kernel
theorem op38_76 : rn_op 38 76 = some (.dup, 1, 0, 0, 0) := by decide +kernel
theorem op38_77 : rn_op 38 77 = some (.getfield 29, 3, 7, 5, 0) := by decide +kernel
theorem op38_80 : rn_op 38 80 = some (.iconst 1, 1, 0, 0, 0) := by decide +kernel
theorem op38_81 : rn_op 38 81 = some (.iload_n 2, 1, 0, 0, 0) := by decide +kernel
theorem op38_82 : rn_op 38 82 = some (.ishl, 1, 0, 0, 0) := by decide +kernel
theorem op38_83 : rn_op 38 83 = some (.ior, 1, 0, 0, 0) := by decide +kernel
theorem op38_84 : rn_op 38 84 = some (.putfield 29, 3, 7, 5, 0) := by decide +kernel
theorem op38_87 : rn_op 38 87 = some (.aload_n 0, 1, 0, 0, 0) := by decide +kernel
theorem op38_88 : rn_op 38 88 = some (.getfield 9, 3, 7, 1, 3) := by decide +kernel
theorem op38_91 : rn_op 38 91 = some (.iload_n 1, 1, 0, 0, 0) := by decide +kernel
theorem op38_92 : rn_op 38 92 = some (.iaload, 1, 0, 0, 0) := by decide +kernel
theorem op38_93 : rn_op 38 93 = some (.aload_n 0, 1, 0, 0, 0) := by decide +kernel
theorem op38_94 : rn_op 38 94 = some (.getfield 15, 3, 7, 2, 3) := by decide +kernel
theorem op38_97 : rn_op 38 97 = some (.iload_n 1, 1, 0, 0, 0) := by decide +kernel
theorem op38_98 : rn_op 38 98 = some (.iaload, 1, 0, 0, 0) := by decide +kernel
theorem op38_99 : rn_op 38 99 = some (.iconst 1, 1, 0, 0, 0) := by decide +kernel
theorem op38_100 : rn_op 38 100 = some (.iadd, 1, 0, 0, 0) := by decide +kernel
theorem op38_101 : rn_op 38 101 = some (.iload_n 3, 1, 0, 0, 0) := by decide +kernel
theorem op38_102 : rn_op 38 102 = some (.imul, 1, 0, 0, 0) := by decide +kernel
theorem op38_103 : rn_op 38 103 = some (.if_icmp .ne 13, 3, 0, 0, 0) := by decide +kernel
theorem op38_106 : rn_op 38 106 = some (.aload_n 0, 1, 0, 0, 0) := by decide +kernel
theorem op38_107 : rn_op 38 107 = some (.getfield 15, 3, 7, 2, 3) := by decide +kernel
theorem op38_110 : rn_op 38 110 = some (.iload_n 1, 1, 0, 0, 0) := by decide +kernel
theorem op38_111 : rn_op 38 111 = some (.dup2, 1, 0, 0, 0) := by decide +kernel
theorem op38_112 : rn_op 38 112 = some (.iaload, 1, 0, 0, 0) := by decide +kernel
theorem op38_113 : rn_op 38 113 = some (.iconst 1, 1, 0, 0, 0) := by decide +kernel
theorem op38_114 : rn_op 38 114 = some (.iadd, 1, 0, 0, 0) := by decide +kernel
theorem op38_115 : rn_op 38 115 = some (.iastore, 1, 0, 0, 0) := by decide +kernel
theorem op38_116 : rn_op 38 116 = some (.return_, 1, 0, 0, 0) := by decide +kernel
def ta_lay (n : Nat) (q0 : Nat) (a1 : Int32) (a2 : Int32) (a3 : Int32) (m : rn_Mem) : Option (rn_Mem) :=
  (lt_isNoChair n a1 m).bind fun (r2, m1) =>
  if r2 = 0 then
    if rn_in a1 4 = true then
      if (m1.1 (q0 + 1) a1.toNatClampNeg) < 12 then
        if rn_in a1 4 = true then
          if rn_in ((a1 * 12) + (m1.1 (q0 + 1) a1.toNatClampNeg)) 48 = true then
            (some (rm_i m1 (q0 + 3) ((a1 * 12) + (m1.1 (q0 + 1) a1.toNatClampNeg)).toNatClampNeg a2)).bind fun (m8 : rn_Mem) =>
            if rn_in a1 4 = true then
              if rn_in a1 4 = true then
                (some (rm_i m8 (q0 + 1) a1.toNatClampNeg ((m8.1 (q0 + 1) a1.toNatClampNeg) + 1))).bind fun (m11 : rn_Mem) =>
                (some (rm_i m11 q0 4 ((m11.1 q0 4) + 1))).bind fun (m13 : rn_Mem) =>
                (show Option (rn_Mem) from
                  if a2 = (-4) then
                    (some (rm_i m13 q0 6 ((m13.1 q0 6) + 1))).bind fun (m15 : rn_Mem) =>
                    some (m15)
                  else
                    (some (rm_i m13 q0 5 ((m13.1 q0 5) ||| ((1 : Int32) <<< (a2 &&& 31))))).bind fun (m16 : rn_Mem) =>
                    some (m16)).bind fun m18 =>
                if rn_in a1 4 = true then
                  if rn_in a1 4 = true then
                    if (m18.1 (q0 + 1) a1.toNatClampNeg) = (((m18.1 (q0 + 2) a1.toNatClampNeg) + 1) * a3) then
                      if rn_in a1 4 = true then
                        if rn_in a1 4 = true then
                          (some (rm_i m18 (q0 + 2) a1.toNatClampNeg ((m18.1 (q0 + 2) a1.toNatClampNeg) + 1))).bind fun (m23 : rn_Mem) =>
                          some m23
                        else none
                      else none
                    else
                      some m18
                  else none
                else none
              else none
            else none
          else none
        else none
      else
        some m1
    else none
  else
    some m1
set_option maxHeartbeats 4000000 in
set_option maxRecDepth 20000 in
theorem ta_lay_ok (xs : List Int32) {d : Nat} (hd : 1 ≤ d) {n : Nat} {q0 : Nat} {a1 : Int32} {a2 : Int32} {a3 : Int32} {m mO : rn_Mem} (hq0 : sA_Table q0) (h : ta_lay n q0 a1 a2 a3 m = some mO) : rn_R xs d 38 0 (rn_ent 4 [.ref q0, .int a1, .int a2, .int a3]) [] (rn_SH, m) none (rn_SH, mO) := by
  obtain ⟨d, rfl⟩ : ∃ e, d = e + 1 := ⟨d - 1, by omega⟩
  unfold ta_lay at h
  show rn_R xs (d + 1) 38 0 [some (.ref q0), some (.int a1), some (.int a2), some (.int a3)] [] (rn_SH, m) none (rn_SH, mO)
  refine rx_p (L2 := [some (.ref q0), some (.int a1), some (.int a2), some (.int a3)]) (S2 := [.int a1]) (pc2 := 1) op38_0 rfl rfl ?_
  obtain ⟨⟨r2, m1⟩, f3, h⟩ := rq_bind h
  try dsimp only at h
  refine ry_is (vs := [.int a1]) (T := []) (pc2 := 4) op38_1 (by decide) ms_39 (by decide) rfl rfl (Nat.le_of_ble_eq_true rfl) (Nat.le_of_ble_eq_true rfl) (lt_isNoChair_ok xs (by omega)  f3) rfl ?_
  show rn_R _ _ _ _ _ [.int r2] _ _ _
  refine ry_if_ne (tgt := 18) (pc2 := 7) op38_4 (by decide) (by decide) rfl (fun b4 => ?_) (fun b4 => ?_)
  · have h := (if_pos b4).symm.trans h
    refine rx_p (L2 := [some (.ref q0), some (.int a1), some (.int a2), some (.int a3)]) (S2 := [.ref q0]) (pc2 := 8) op38_7 rfl rfl ?_
    refine rx_gf (v := .ref (q0 + 1)) (pc2 := 11) op38_8 (hq0.1) rfl rfl rfl ?_
    refine rx_p (L2 := [some (.ref q0), some (.int a1), some (.int a2), some (.int a3)]) (S2 := [.int a1, .ref (q0 + 1)]) (pc2 := 12) op38_11 rfl rfl ?_
    obtain ⟨k5, h⟩ := rq_chk h
    refine rx_ia (pc2 := 13) op38_12 (rn_shlt (hq0.2.1)) (hq0.2.1) k5 rfl rfl ?_
    refine rx_bp (v := 12) (pc2 := 15) op38_13 (by decide) rfl ?_
    refine ry_ic_lt (tgt := 19) (pc2 := 18) op38_15 (by decide) (by decide) rfl (fun b6 => ?_) (fun b6 => ?_)
    · have h := (if_pos b6).symm.trans h
      refine rx_p (L2 := [some (.ref q0), some (.int a1), some (.int a2), some (.int a3)]) (S2 := [.ref q0]) (pc2 := 20) op38_19 rfl rfl ?_
      refine rx_gf (v := .ref (q0 + 3)) (pc2 := 23) op38_20 (hq0.1) rfl rfl rfl ?_
      refine rx_p (L2 := [some (.ref q0), some (.int a1), some (.int a2), some (.int a3)]) (S2 := [.int a1, .ref (q0 + 3)]) (pc2 := 24) op38_23 rfl rfl ?_
      refine rx_bp (v := 12) (pc2 := 26) op38_24 (by decide) rfl ?_
      refine rx_p (L2 := [some (.ref q0), some (.int a1), some (.int a2), some (.int a3)]) (S2 := [.int (a1 * 12), .ref (q0 + 3)]) (pc2 := 27) op38_26 rfl rfl ?_
      refine rx_p (L2 := [some (.ref q0), some (.int a1), some (.int a2), some (.int a3)]) (S2 := [.ref q0, .int (a1 * 12), .ref (q0 + 3)]) (pc2 := 28) op38_27 rfl rfl ?_
      refine rx_gf (v := .ref (q0 + 1)) (pc2 := 31) op38_28 (hq0.1) rfl rfl rfl ?_
      refine rx_p (L2 := [some (.ref q0), some (.int a1), some (.int a2), some (.int a3)]) (S2 := [.int a1, .ref (q0 + 1), .int (a1 * 12), .ref (q0 + 3)]) (pc2 := 32) op38_31 rfl rfl ?_
      obtain ⟨k7, h⟩ := rq_chk h
      refine rx_ia (pc2 := 33) op38_32 (rn_shlt (hq0.2.1)) (hq0.2.1) k7 rfl rfl ?_
      refine rx_p (L2 := [some (.ref q0), some (.int a1), some (.int a2), some (.int a3)]) (S2 := [.int ((a1 * 12) + (m1.1 (q0 + 1) a1.toNatClampNeg)), .ref (q0 + 3)]) (pc2 := 34) op38_33 rfl rfl ?_
      refine rx_p (L2 := [some (.ref q0), some (.int a1), some (.int a2), some (.int a3)]) (S2 := [.int a2, .int ((a1 * 12) + (m1.1 (q0 + 1) a1.toNatClampNeg)), .ref (q0 + 3)]) (pc2 := 35) op38_34 rfl rfl ?_
      obtain ⟨k9, h⟩ := rq_chk h
      obtain ⟨m8, em8, h⟩ := rq_bv h
      refine rx_is (m2 := m8) (pc2 := 36) op38_35 (hq0.2.2.2) k9 rfl em8 rfl ?_
      refine rx_p (L2 := [some (.ref q0), some (.int a1), some (.int a2), some (.int a3)]) (S2 := [.ref q0]) (pc2 := 37) op38_36 rfl rfl ?_
      refine rx_gf (v := .ref (q0 + 1)) (pc2 := 40) op38_37 (hq0.1) rfl rfl rfl ?_
      refine rx_p (L2 := [some (.ref q0), some (.int a1), some (.int a2), some (.int a3)]) (S2 := [.int a1, .ref (q0 + 1)]) (pc2 := 41) op38_40 rfl rfl ?_
      refine rx_p (L2 := [some (.ref q0), some (.int a1), some (.int a2), some (.int a3)]) (S2 := [.int a1, .ref (q0 + 1), .int a1, .ref (q0 + 1)]) (pc2 := 42) op38_41 rfl rfl ?_
      obtain ⟨k10, h⟩ := rq_chk h
      refine rx_ia (pc2 := 43) op38_42 (rn_shlt (hq0.2.1)) (hq0.2.1) k10 rfl rfl ?_
      refine rx_ic (v := 1) (pc2 := 44) op38_43 (by decide) rfl ?_
      refine rx_p (L2 := [some (.ref q0), some (.int a1), some (.int a2), some (.int a3)]) (S2 := [.int ((m8.1 (q0 + 1) a1.toNatClampNeg) + 1), .int a1, .ref (q0 + 1)]) (pc2 := 45) op38_44 rfl rfl ?_
      obtain ⟨k12, h⟩ := rq_chk h
      obtain ⟨m11, em11, h⟩ := rq_bv h
      refine rx_is (m2 := m11) (pc2 := 46) op38_45 (hq0.2.1) k12 rfl em11 rfl ?_
      refine rx_p (L2 := [some (.ref q0), some (.int a1), some (.int a2), some (.int a3)]) (S2 := [.ref q0]) (pc2 := 47) op38_46 rfl rfl ?_
      refine rx_p (L2 := [some (.ref q0), some (.int a1), some (.int a2), some (.int a3)]) (S2 := [.ref q0, .ref q0]) (pc2 := 48) op38_47 rfl rfl ?_
      refine rx_gf (v := .int (m11.1 q0 4)) (pc2 := 51) op38_48 (hq0.1) rfl rfl rfl ?_
      refine rx_ic (v := 1) (pc2 := 52) op38_51 (by decide) rfl ?_
      refine rx_p (L2 := [some (.ref q0), some (.int a1), some (.int a2), some (.int a3)]) (S2 := [.int ((m11.1 q0 4) + 1), .ref q0]) (pc2 := 53) op38_52 rfl rfl ?_
      obtain ⟨m13, em13, h⟩ := rq_bv h
      refine rx_pf (m2 := m13) (pc2 := 56) op38_53 (hq0.1) rfl em13 rfl ?_
      refine rx_p (L2 := [some (.ref q0), some (.int a1), some (.int a2), some (.int a3)]) (S2 := [.int a2]) (pc2 := 57) op38_56 rfl rfl ?_
      refine rx_bp (v := (-4)) (pc2 := 59) op38_57 (by decide) rfl ?_
      obtain ⟨m18, gc25, h⟩ := rq_bind h
      try dsimp only at h
      have c25 : ∀ (o17 : Option Value), rn_R xs (d + 1) 38 87 [some (.ref q0), some (.int a1), o17, some (.int a3)] [] (rn_SH, m18) none (rn_SH, mO) := by
        intro o17
        refine rx_p (L2 := [some (.ref q0), some (.int a1), o17, some (.int a3)]) (S2 := [.ref q0]) (pc2 := 88) op38_87 rfl rfl ?_
        refine rx_gf (v := .ref (q0 + 1)) (pc2 := 91) op38_88 (hq0.1) rfl rfl rfl ?_
        refine rx_p (L2 := [some (.ref q0), some (.int a1), o17, some (.int a3)]) (S2 := [.int a1, .ref (q0 + 1)]) (pc2 := 92) op38_91 rfl rfl ?_
        obtain ⟨k19, h⟩ := rq_chk h
        refine rx_ia (pc2 := 93) op38_92 (rn_shlt (hq0.2.1)) (hq0.2.1) k19 rfl rfl ?_
        refine rx_p (L2 := [some (.ref q0), some (.int a1), o17, some (.int a3)]) (S2 := [.ref q0, .int (m18.1 (q0 + 1) a1.toNatClampNeg)]) (pc2 := 94) op38_93 rfl rfl ?_
        refine rx_gf (v := .ref (q0 + 2)) (pc2 := 97) op38_94 (hq0.1) rfl rfl rfl ?_
        refine rx_p (L2 := [some (.ref q0), some (.int a1), o17, some (.int a3)]) (S2 := [.int a1, .ref (q0 + 2), .int (m18.1 (q0 + 1) a1.toNatClampNeg)]) (pc2 := 98) op38_97 rfl rfl ?_
        obtain ⟨k20, h⟩ := rq_chk h
        refine rx_ia (pc2 := 99) op38_98 (rn_shlt (hq0.2.2.1)) (hq0.2.2.1) k20 rfl rfl ?_
        refine rx_ic (v := 1) (pc2 := 100) op38_99 (by decide) rfl ?_
        refine rx_p (L2 := [some (.ref q0), some (.int a1), o17, some (.int a3)]) (S2 := [.int ((m18.1 (q0 + 2) a1.toNatClampNeg) + 1), .int (m18.1 (q0 + 1) a1.toNatClampNeg)]) (pc2 := 101) op38_100 rfl rfl ?_
        refine rx_p (L2 := [some (.ref q0), some (.int a1), o17, some (.int a3)]) (S2 := [.int a3, .int ((m18.1 (q0 + 2) a1.toNatClampNeg) + 1), .int (m18.1 (q0 + 1) a1.toNatClampNeg)]) (pc2 := 102) op38_101 rfl rfl ?_
        refine rx_p (L2 := [some (.ref q0), some (.int a1), o17, some (.int a3)]) (S2 := [.int (((m18.1 (q0 + 2) a1.toNatClampNeg) + 1) * a3), .int (m18.1 (q0 + 1) a1.toNatClampNeg)]) (pc2 := 103) op38_102 rfl rfl ?_
        refine ry_ic_ne (tgt := 116) (pc2 := 106) op38_103 (by decide) (by decide) rfl (fun b21 => ?_) (fun b21 => ?_)
        · have h := (if_pos b21).symm.trans h
          refine rx_p (L2 := [some (.ref q0), some (.int a1), o17, some (.int a3)]) (S2 := [.ref q0]) (pc2 := 107) op38_106 rfl rfl ?_
          refine rx_gf (v := .ref (q0 + 2)) (pc2 := 110) op38_107 (hq0.1) rfl rfl rfl ?_
          refine rx_p (L2 := [some (.ref q0), some (.int a1), o17, some (.int a3)]) (S2 := [.int a1, .ref (q0 + 2)]) (pc2 := 111) op38_110 rfl rfl ?_
          refine rx_p (L2 := [some (.ref q0), some (.int a1), o17, some (.int a3)]) (S2 := [.int a1, .ref (q0 + 2), .int a1, .ref (q0 + 2)]) (pc2 := 112) op38_111 rfl rfl ?_
          obtain ⟨k22, h⟩ := rq_chk h
          refine rx_ia (pc2 := 113) op38_112 (rn_shlt (hq0.2.2.1)) (hq0.2.2.1) k22 rfl rfl ?_
          refine rx_ic (v := 1) (pc2 := 114) op38_113 (by decide) rfl ?_
          refine rx_p (L2 := [some (.ref q0), some (.int a1), o17, some (.int a3)]) (S2 := [.int ((m18.1 (q0 + 2) a1.toNatClampNeg) + 1), .int a1, .ref (q0 + 2)]) (pc2 := 115) op38_114 rfl rfl ?_
          obtain ⟨k24, h⟩ := rq_chk h
          obtain ⟨m23, em23, h⟩ := rq_bv h
          refine rx_is (m2 := m23) (pc2 := 116) op38_115 (hq0.2.2.1) k24 rfl em23 rfl ?_
          obtain rfl := Option.some.inj h
          exact ry_rv op38_116 ms_38 rfl
        · have h := (if_neg b21).symm.trans h
          obtain rfl := Option.some.inj h
          exact ry_rv op38_116 ms_38 rfl
      refine ry_ic_ne (tgt := 75) (pc2 := 62) op38_59 (by decide) (by decide) rfl (fun b14 => ?_) (fun b14 => ?_)
      · have gc25 := (if_pos b14).symm.trans gc25
        refine rx_p (L2 := [some (.ref q0), some (.int a1), some (.int a2), some (.int a3)]) (S2 := [.ref q0]) (pc2 := 63) op38_62 rfl rfl ?_
        refine rx_p (L2 := [some (.ref q0), some (.int a1), some (.int a2), some (.int a3)]) (S2 := [.ref q0, .ref q0]) (pc2 := 64) op38_63 rfl rfl ?_
        refine rx_gf (v := .int (m13.1 q0 6)) (pc2 := 67) op38_64 (hq0.1) rfl rfl rfl ?_
        refine rx_ic (v := 1) (pc2 := 68) op38_67 (by decide) rfl ?_
        refine rx_p (L2 := [some (.ref q0), some (.int a1), some (.int a2), some (.int a3)]) (S2 := [.int ((m13.1 q0 6) + 1), .ref q0]) (pc2 := 69) op38_68 rfl rfl ?_
        obtain ⟨m15, em15, gc25⟩ := rq_bv gc25
        refine rx_pf (m2 := m15) (pc2 := 72) op38_69 (hq0.1) rfl em15 rfl ?_
        refine ry_go (tgt := 87) op38_72 (by decide) (by decide) ?_
        cases gc25
        exact c25 _
      · have gc25 := (if_neg b14).symm.trans gc25
        refine rx_p (L2 := [some (.ref q0), some (.int a1), some (.int a2), some (.int a3)]) (S2 := [.ref q0]) (pc2 := 76) op38_75 rfl rfl ?_
        refine rx_p (L2 := [some (.ref q0), some (.int a1), some (.int a2), some (.int a3)]) (S2 := [.ref q0, .ref q0]) (pc2 := 77) op38_76 rfl rfl ?_
        refine rx_gf (v := .int (m13.1 q0 5)) (pc2 := 80) op38_77 (hq0.1) rfl rfl rfl ?_
        refine rx_ic (v := 1) (pc2 := 81) op38_80 (by decide) rfl ?_
        refine rx_p (L2 := [some (.ref q0), some (.int a1), some (.int a2), some (.int a3)]) (S2 := [.int a2, .int 1, .int (m13.1 q0 5), .ref q0]) (pc2 := 82) op38_81 rfl rfl ?_
        refine rx_p (L2 := [some (.ref q0), some (.int a1), some (.int a2), some (.int a3)]) (S2 := [.int ((1 : Int32) <<< (a2 &&& 31)), .int (m13.1 q0 5), .ref q0]) (pc2 := 83) op38_82 rfl rfl ?_
        refine rx_p (L2 := [some (.ref q0), some (.int a1), some (.int a2), some (.int a3)]) (S2 := [.int ((m13.1 q0 5) ||| ((1 : Int32) <<< (a2 &&& 31))), .ref q0]) (pc2 := 84) op38_83 rfl rfl ?_
        obtain ⟨m16, em16, gc25⟩ := rq_bv gc25
        refine rx_pf (m2 := m16) (pc2 := 87) op38_84 (hq0.1) rfl em16 rfl ?_
        cases gc25
        exact c25 _
    · have h := (if_neg b6).symm.trans h
      obtain rfl := Option.some.inj h
      exact ry_rv op38_18 ms_38 rfl
  · have h := (if_neg b4).symm.trans h
    obtain rfl := Option.some.inj h
    exact ry_rv op38_18 ms_38 rfl
/-! ta_whole -/
theorem op40_0 : rn_op 40 0 = some (.aload_n 0, 1, 0, 0, 0) := by decide +kernel
theorem op40_1 : rn_op 40 1 = some (.getfield 9, 3, 7, 1, 3) := by decide +kernel
theorem op40_4 : rn_op 40 4 = some (.iload_n 1, 1, 0, 0, 0) := by decide +kernel
theorem op40_5 : rn_op 40 5 = some (.iaload, 1, 0, 0, 0) := by decide +kernel
theorem op40_6 : rn_op 40 6 = some (.aload_n 0, 1, 0, 0, 0) := by decide +kernel
theorem op40_7 : rn_op 40 7 = some (.getfield 15, 3, 7, 2, 3) := by decide +kernel
theorem op40_10 : rn_op 40 10 = some (.iload_n 1, 1, 0, 0, 0) := by decide +kernel
theorem op40_11 : rn_op 40 11 = some (.iaload, 1, 0, 0, 0) := by decide +kernel
theorem op40_12 : rn_op 40 12 = some (.iload_n 2, 1, 0, 0, 0) := by decide +kernel
theorem op40_13 : rn_op 40 13 = some (.imul, 1, 0, 0, 0) := by decide +kernel
theorem op40_14 : rn_op 40 14 = some (.if_icmp .ne 7, 3, 0, 0, 0) := by decide +kernel
theorem op40_17 : rn_op 40 17 = some (.iconst 1, 1, 0, 0, 0) := by decide +kernel
theorem op40_18 : rn_op 40 18 = some (.goto 4, 3, 0, 0, 0) := by decide +kernel
theorem op40_21 : rn_op 40 21 = some (.iconst 0, 1, 0, 0, 0) := by decide +kernel
theorem op40_22 : rn_op 40 22 = some (.ireturn, 1, 0, 0, 0) := by decide +kernel
def ta_whole (n : Nat) (q0 : Nat) (a1 : Int32) (a2 : Int32) (m : rn_Mem) : Option (Int32 × rn_Mem) :=
  if rn_in a1 4 = true then
    if rn_in a1 4 = true then
      if (m.1 (q0 + 1) a1.toNatClampNeg) = ((m.1 (q0 + 2) a1.toNatClampNeg) * a2) then
        some (1, m)
      else
        some (0, m)
    else none
  else none
set_option maxHeartbeats 4000000 in
set_option maxRecDepth 20000 in
theorem ta_whole_ok (xs : List Int32) {d : Nat} (hd : 0 ≤ d) {n : Nat} {q0 : Nat} {a1 : Int32} {a2 : Int32} {m mO : rn_Mem} {rO : Int32} (hq0 : sA_Table q0) (h : ta_whole n q0 a1 a2 m = some (rO, mO)) : rn_R xs d 40 0 (rn_ent 3 [.ref q0, .int a1, .int a2]) [] (rn_SH, m) (some (.int rO)) (rn_SH, mO) := by
  unfold ta_whole at h
  show rn_R xs d 40 0 [some (.ref q0), some (.int a1), some (.int a2)] [] (rn_SH, m) (some (.int rO)) (rn_SH, mO)
  refine rx_p (L2 := [some (.ref q0), some (.int a1), some (.int a2)]) (S2 := [.ref q0]) (pc2 := 1) op40_0 rfl rfl ?_
  refine rx_gf (v := .ref (q0 + 1)) (pc2 := 4) op40_1 (hq0.1) rfl rfl rfl ?_
  refine rx_p (L2 := [some (.ref q0), some (.int a1), some (.int a2)]) (S2 := [.int a1, .ref (q0 + 1)]) (pc2 := 5) op40_4 rfl rfl ?_
  obtain ⟨k1, h⟩ := rq_chk h
  refine rx_ia (pc2 := 6) op40_5 (rn_shlt (hq0.2.1)) (hq0.2.1) k1 rfl rfl ?_
  refine rx_p (L2 := [some (.ref q0), some (.int a1), some (.int a2)]) (S2 := [.ref q0, .int (m.1 (q0 + 1) a1.toNatClampNeg)]) (pc2 := 7) op40_6 rfl rfl ?_
  refine rx_gf (v := .ref (q0 + 2)) (pc2 := 10) op40_7 (hq0.1) rfl rfl rfl ?_
  refine rx_p (L2 := [some (.ref q0), some (.int a1), some (.int a2)]) (S2 := [.int a1, .ref (q0 + 2), .int (m.1 (q0 + 1) a1.toNatClampNeg)]) (pc2 := 11) op40_10 rfl rfl ?_
  obtain ⟨k2, h⟩ := rq_chk h
  refine rx_ia (pc2 := 12) op40_11 (rn_shlt (hq0.2.2.1)) (hq0.2.2.1) k2 rfl rfl ?_
  refine rx_p (L2 := [some (.ref q0), some (.int a1), some (.int a2)]) (S2 := [.int a2, .int (m.1 (q0 + 2) a1.toNatClampNeg), .int (m.1 (q0 + 1) a1.toNatClampNeg)]) (pc2 := 13) op40_12 rfl rfl ?_
  refine rx_p (L2 := [some (.ref q0), some (.int a1), some (.int a2)]) (S2 := [.int ((m.1 (q0 + 2) a1.toNatClampNeg) * a2), .int (m.1 (q0 + 1) a1.toNatClampNeg)]) (pc2 := 14) op40_13 rfl rfl ?_
  refine ry_ic_ne (tgt := 21) (pc2 := 17) op40_14 (by decide) (by decide) rfl (fun b3 => ?_) (fun b3 => ?_)
  · have h := (if_pos b3).symm.trans h
    refine rx_ic (v := 1) (pc2 := 18) op40_17 (by decide) rfl ?_
    refine ry_go (tgt := 22) op40_18 (by decide) (by decide) ?_
    obtain ⟨rfl, rfl⟩ := rq_ret h
    exact ry_rz (x := 1) op40_22 ms_40 rfl (by decide)
  · have h := (if_neg b3).symm.trans h
    refine rx_ic (v := 0) (pc2 := 22) op40_21 (by decide) rfl ?_
    obtain ⟨rfl, rfl⟩ := rq_ret h
    exact ry_rz (x := 0) op40_22 ms_40 rfl (by decide)
/-! tp_readHeap -/
theorem op37_0 : rn_op 37 0 = some (.iconst 0, 1, 0, 0, 0) := by decide +kernel
theorem op37_1 : rn_op 37 1 = some (.istore 4, 2, 0, 0, 0) := by decide +kernel
theorem op37_3 : rn_op 37 3 = some (.iload 4, 2, 0, 0, 0) := by decide +kernel
theorem op37_5 : rn_op 37 5 = some (.bipush 12, 2, 0, 0, 0) := by decide +kernel
theorem op37_7 : rn_op 37 7 = some (.if_icmp .gt 109, 3, 0, 0, 0) := by decide +kernel
theorem op37_10 : rn_op 37 10 = some (.aload_n 0, 1, 0, 0, 0) := by decide +kernel
theorem op37_11 : rn_op 37 11 = some (.invokevirtual 71, 3, 19, 1, 8) := by decide +kernel
theorem op37_14 : rn_op 37 14 = some (.bipush 63, 2, 0, 0, 0) := by decide +kernel
theorem op37_16 : rn_op 37 16 = some (.if_icmp .eq 10, 3, 0, 0, 0) := by decide +kernel
theorem op37_19 : rn_op 37 19 = some (.aload_n 0, 1, 0, 0, 0) := by decide +kernel
theorem op37_20 : rn_op 37 20 = some (.invokevirtual 74, 3, 25, 1, 8) := by decide +kernel
theorem op37_23 : rn_op 37 23 = some (.ifCond .lt 93, 3, 0, 0, 0) := by decide +kernel
theorem op37_26 : rn_op 37 26 = some (.aload_n 1, 1, 0, 0, 0) := by decide +kernel
theorem op37_27 : rn_op 37 27 = some (.getfield 64, 3, 7, 4, 0) := by decide +kernel
theorem op37_30 : rn_op 37 30 = some (.aload_n 2, 1, 0, 0, 0) := by decide +kernel
theorem op37_31 : rn_op 37 31 = some (.invokevirtual 67, 3, 23, 1, 1) := by decide +kernel
theorem op37_34 : rn_op 37 34 = some (.if_icmp .lt 5, 3, 0, 0, 0) := by decide +kernel
theorem op37_37 : rn_op 37 37 = some (.iconst 0, 1, 0, 0, 0) := by decide +kernel
theorem op37_38 : rn_op 37 38 = some (.ireturn, 1, 0, 0, 0) := by decide +kernel
theorem op37_39 : rn_op 37 39 = some (.bipush (-4), 2, 0, 0, 0) := by decide +kernel
theorem op37_41 : rn_op 37 41 = some (.istore 5, 2, 0, 0, 0) := by decide +kernel
theorem op37_43 : rn_op 37 43 = some (.aload_n 0, 1, 0, 0, 0) := by decide +kernel
theorem op37_44 : rn_op 37 44 = some (.invokevirtual 71, 3, 19, 1, 8) := by decide +kernel
theorem op37_47 : rn_op 37 47 = some (.bipush 63, 2, 0, 0, 0) := by decide +kernel
theorem op37_49 : rn_op 37 49 = some (.if_icmp .ne 26, 3, 0, 0, 0) := by decide +kernel
theorem op37_52 : rn_op 37 52 = some (.aload_n 1, 1, 0, 0, 0) := by decide +kernel
theorem op37_53 : rn_op 37 53 = some (.getfield 111, 3, 7, 6, 0) := by decide +kernel
theorem op37_56 : rn_op 37 56 = some (.iconst 3, 1, 0, 0, 0) := by decide +kernel
theorem op37_57 : rn_op 37 57 = some (.if_icmp .lt 5, 3, 0, 0, 0) := by decide +kernel
theorem op37_60 : rn_op 37 60 = some (.iconst 0, 1, 0, 0, 0) := by decide +kernel
theorem op37_61 : rn_op 37 61 = some (.ireturn, 1, 0, 0, 0) := by decide +kernel
theorem op37_62 : rn_op 37 62 = some (.aload_n 0, 1, 0, 0, 0) := by decide +kernel
theorem op37_63 : rn_op 37 63 = some (.dup, 1, 0, 0, 0) := by decide +kernel
theorem op37_64 : rn_op 37 64 = some (.getfield 19, 3, 8, 2, 0) := by decide +kernel
theorem op37_67 : rn_op 37 67 = some (.iconst 1, 1, 0, 0, 0) := by decide +kernel
theorem op37_68 : rn_op 37 68 = some (.iadd, 1, 0, 0, 0) := by decide +kernel
theorem op37_69 : rn_op 37 69 = some (.putfield 19, 3, 8, 2, 0) := by decide +kernel
theorem op37_72 : rn_op 37 72 = some (.goto 27, 3, 0, 0, 0) := by decide +kernel
theorem op37_75 : rn_op 37 75 = some (.aload_n 0, 1, 0, 0, 0) := by decide +kernel
theorem op37_76 : rn_op 37 76 = some (.aload_n 2, 1, 0, 0, 0) := by decide +kernel
theorem op37_77 : rn_op 37 77 = some (.getfield 89, 3, 1, 3, 0) := by decide +kernel
theorem op37_80 : rn_op 37 80 = some (.iconst (-1), 1, 0, 0, 0) := by decide +kernel
theorem op37_81 : rn_op 37 81 = some (.ixor, 1, 0, 0, 0) := by decide +kernel
theorem op37_82 : rn_op 37 82 = some (.aload_n 1, 1, 0, 0, 0) := by decide +kernel
theorem op37_83 : rn_op 37 83 = some (.getfield 114, 3, 7, 5, 0) := by decide +kernel
theorem op37_86 : rn_op 37 86 = some (.ior, 1, 0, 0, 0) := by decide +kernel
theorem op37_87 : rn_op 37 87 = some (.invokevirtual 92, 3, 24, 2, 8) := by decide +kernel
theorem op37_90 : rn_op 37 90 = some (.istore 5, 2, 0, 0, 0) := by decide +kernel
theorem op37_92 : rn_op 37 92 = some (.iload 5, 2, 0, 0, 0) := by decide +kernel
theorem op37_94 : rn_op 37 94 = some (.ifCond .ge 5, 3, 0, 0, 0) := by decide +kernel
theorem op37_97 : rn_op 37 97 = some (.iconst 0, 1, 0, 0, 0) := by decide +kernel
theorem op37_98 : rn_op 37 98 = some (.ireturn, 1, 0, 0, 0) := by decide +kernel
theorem op37_99 : rn_op 37 99 = some (.aload_n 1, 1, 0, 0, 0) := by decide +kernel
theorem op37_100 : rn_op 37 100 = some (.iload_n 3, 1, 0, 0, 0) := by decide +kernel
theorem op37_101 : rn_op 37 101 = some (.iload 5, 2, 0, 0, 0) := by decide +kernel
theorem op37_103 : rn_op 37 103 = some (.aload_n 2, 1, 0, 0, 0) := by decide +kernel
theorem op37_104 : rn_op 37 104 = some (.getfield 53, 3, 1, 1, 0) := by decide +kernel
theorem op37_107 : rn_op 37 107 = some (.invokevirtual 117, 3, 38, 4, 7) := by decide +kernel
theorem op37_110 : rn_op 37 110 = some (.iinc 4 1, 3, 0, 0, 0) := by decide +kernel
theorem op37_113 : rn_op 37 113 = some (.goto (-110), 3, 0, 0, 0) := by decide +kernel
theorem op37_116 : rn_op 37 116 = some (.aload_n 1, 1, 0, 0, 0) := by decide +kernel
theorem op37_117 : rn_op 37 117 = some (.iload_n 3, 1, 0, 0, 0) := by decide +kernel
theorem op37_118 : rn_op 37 118 = some (.aload_n 2, 1, 0, 0, 0) := by decide +kernel
theorem op37_119 : rn_op 37 119 = some (.getfield 53, 3, 1, 1, 0) := by decide +kernel
theorem op37_122 : rn_op 37 122 = some (.invokevirtual 121, 3, 40, 3, 7) := by decide +kernel
theorem op37_125 : rn_op 37 125 = some (.ireturn, 1, 0, 0, 0) := by decide +kernel
def tp_readHeap_l3 (q1 : Nat) (q2 : Nat) (a3 : Int32) : Nat → Int32 → rn_Mem → Option ((Int32 × rn_Mem) ⊕ (rn_Mem))
  | 0, _, _ => none
  | n + 1, a4, m =>
    if 12 < a4 then
      some (.inr m)
    else
      (tp_peek n m).bind fun (r3, m2) =>
      if r3 = 63 then
        (ga_cards n q2 m2).bind fun (r11, m10) =>
        if (m2.1 q1 4) < r11 then
          (tp_peek n m10).bind fun (r15, m14) =>
          if r15 = 63 then
            if (m14.1 q1 6) < 3 then
              (some (rm_i m14 1 2 ((m14.1 1 2) + 1))).bind fun (m25 : rn_Mem) =>
              (ta_lay n q1 a3 (-4) (m25.1 q2 1) m25).bind fun m26 =>
              (some (a4 + 1)).bind fun (x28 : Int32) =>
              tp_readHeap_l3 q1 q2 a3 n x28 m26
            else
              some (.inl (0, m14))
          else
            (tp_card n (((m14.1 q2 3) ^^^ (-1)) ||| (m14.1 q1 5)) m14).bind fun (r30, m29) =>
            if r30 < 0 then
              some (.inl (0, m29))
            else
              (ta_lay n q1 a3 r30 (m29.1 q2 1) m29).bind fun m33 =>
              (some (a4 + 1)).bind fun (x35 : Int32) =>
              tp_readHeap_l3 q1 q2 a3 n x35 m33
        else
          some (.inl (0, m10))
      else
        (tp_peekSuit n m2).bind fun (r37, m36) =>
        if r37 < 0 then
          some (.inr m36)
        else
          (ga_cards n q2 m36).bind fun (r41, m40) =>
          if (m36.1 q1 4) < r41 then
            (tp_peek n m40).bind fun (r45, m44) =>
            if r45 = 63 then
              if (m44.1 q1 6) < 3 then
                (some (rm_i m44 1 2 ((m44.1 1 2) + 1))).bind fun (m55 : rn_Mem) =>
                (ta_lay n q1 a3 (-4) (m55.1 q2 1) m55).bind fun m56 =>
                (some (a4 + 1)).bind fun (x58 : Int32) =>
                tp_readHeap_l3 q1 q2 a3 n x58 m56
              else
                some (.inl (0, m44))
            else
              (tp_card n (((m44.1 q2 3) ^^^ (-1)) ||| (m44.1 q1 5)) m44).bind fun (r60, m59) =>
              if r60 < 0 then
                some (.inl (0, m59))
              else
                (ta_lay n q1 a3 r60 (m59.1 q2 1) m59).bind fun m63 =>
                (some (a4 + 1)).bind fun (x65 : Int32) =>
                tp_readHeap_l3 q1 q2 a3 n x65 m63
          else
            some (.inl (0, m40))
def tp_readHeap (n : Nat) (q1 : Nat) (q2 : Nat) (a3 : Int32) (m : rn_Mem) : Option (Int32 × rn_Mem) :=
  (tp_readHeap_l3 q1 q2 a3 n 0 m).bind fun q => match q with
  | .inl o => some o
  | .inr m66 =>
  (ta_whole n q1 a3 (m66.1 q2 1) m66).bind fun (r71, m70) =>
  if r71 = 0 ∨ r71 = 1 then
    some (r71, m70)
  else none
set_option maxHeartbeats 4000000 in
set_option maxRecDepth 20000 in
theorem tp_readHeap_l3_ok (xs : List Int32) {d : Nat} (hd : 3 ≤ d + 1) {q1 : Nat} {q2 : Nat} {a3 : Int32} {r : Option Value} {τ : rn_H} {out : (Int32 × rn_Mem) ⊕ (rn_Mem)} (hl : ∀ (rO : Int32) (mO : rn_Mem), out = .inl (rO, mO) → r = (some (.int rO)) ∧ τ = (rn_SH, mO)) (hr : ∀ (mO : rn_Mem), out = .inr mO → ∀ (o0 o4 o5 : Option Value), rn_R xs (d + 1) 37 116 [o0, some (.ref q1), some (.ref q2), some (.int a3), o4, o5] [] (rn_SH, mO) r τ) : ∀ (n : Nat) (a4 : Int32) (o5 : Option Value) (m : rn_Mem), sA_Table q1 → sA_Game q2 → tp_readHeap_l3 q1 q2 a3 n a4 m = some out → rn_R xs (d + 1) 37 3 [some (.ref 1), some (.ref q1), some (.ref q2), some (.int a3), some (.int a4), o5] [] (rn_SH, m) r τ := by
  intro n
  induction n with
  | zero =>
    intro _ _ _ _ _ h
    cases h
  | succ n ih =>
    intro a4 o5 m hq1 hq2 h
    unfold tp_readHeap_l3 at h
    try dsimp only at h
    refine rx_p (L2 := [some (.ref 1), some (.ref q1), some (.ref q2), some (.int a3), some (.int a4), o5]) (S2 := [.int a4]) (pc2 := 5) op37_3 rfl rfl ?_
    refine rx_bp (v := 12) (pc2 := 7) op37_5 (by decide) rfl ?_
    refine ry_ic_gt (tgt := 116) (pc2 := 10) op37_7 (by decide) (by decide) rfl (fun b1 => ?_) (fun b1 => ?_)
    · have h := (if_pos b1).symm.trans h
      cases h
      exact hr _ rfl _ _ _
    · have h := (if_neg b1).symm.trans h
      refine rx_p (L2 := [some (.ref 1), some (.ref q1), some (.ref q2), some (.int a3), some (.int a4), o5]) (S2 := [.ref 1]) (pc2 := 11) op37_10 rfl rfl ?_
      obtain ⟨⟨r3, m2⟩, f4, h⟩ := rq_bind h
      try dsimp only at h
      refine ry_iv (p := 1) (vs := []) (T := []) (pc2 := 14) op37_11 ms_19 (by decide) rfl rfl (Nat.le_of_ble_eq_true rfl) (Nat.le_of_ble_eq_true rfl) sp_1 (tp_peek_ok xs (by omega)  f4) rfl ?_
      show rn_R _ _ _ _ _ [.int r3] _ _ _
      refine rx_bp (v := 63) (pc2 := 16) op37_14 (by decide) rfl ?_
      refine ry_ic_eq (tgt := 26) (pc2 := 19) op37_16 (by decide) (by decide) rfl (fun b5 => ?_) (fun b5 => ?_)
      · have h := (if_pos b5).symm.trans h
        refine rx_p (L2 := [some (.ref 1), some (.ref q1), some (.ref q2), some (.int a3), some (.int a4), o5]) (S2 := [.ref q1]) (pc2 := 27) op37_26 rfl rfl ?_
        refine rx_gf (v := .int (m2.1 q1 4)) (pc2 := 30) op37_27 (hq1.1) rfl rfl rfl ?_
        refine rx_p (L2 := [some (.ref 1), some (.ref q1), some (.ref q2), some (.int a3), some (.int a4), o5]) (S2 := [.ref q2, .int (m2.1 q1 4)]) (pc2 := 31) op37_30 rfl rfl ?_
        obtain ⟨⟨r11, m10⟩, f12, h⟩ := rq_bind h
        try dsimp only at h
        refine ry_iv (p := q2) (vs := []) (T := [.int (m2.1 q1 4)]) (pc2 := 34) op37_31 ms_23 (by decide) rfl rfl (Nat.le_of_ble_eq_true rfl) (Nat.le_of_ble_eq_true rfl) hq2 (ga_cards_ok xs (by omega) hq2 f12) rfl ?_
        show rn_R _ _ _ _ _ [.int r11, .int (m2.1 q1 4)] _ _ _
        refine ry_ic_lt (tgt := 39) (pc2 := 37) op37_34 (by decide) (by decide) rfl (fun b13 => ?_) (fun b13 => ?_)
        · have h := (if_pos b13).symm.trans h
          refine rx_bp (v := (-4)) (pc2 := 41) op37_39 (by decide) rfl ?_
          refine rx_s (L2 := [some (.ref 1), some (.ref q1), some (.ref q2), some (.int a3), some (.int a4), some (.int (-4))]) (pc2 := 43) op37_41 rfl rfl rfl ?_
          refine rx_p (L2 := [some (.ref 1), some (.ref q1), some (.ref q2), some (.int a3), some (.int a4), some (.int (-4))]) (S2 := [.ref 1]) (pc2 := 44) op37_43 rfl rfl ?_
          obtain ⟨⟨r15, m14⟩, f16, h⟩ := rq_bind h
          try dsimp only at h
          refine ry_iv (p := 1) (vs := []) (T := []) (pc2 := 47) op37_44 ms_19 (by decide) rfl rfl (Nat.le_of_ble_eq_true rfl) (Nat.le_of_ble_eq_true rfl) sp_1 (tp_peek_ok xs (by omega)  f16) rfl ?_
          show rn_R _ _ _ _ _ [.int r15] _ _ _
          refine rx_bp (v := 63) (pc2 := 49) op37_47 (by decide) rfl ?_
          refine ry_ic_ne (tgt := 75) (pc2 := 52) op37_49 (by decide) (by decide) rfl (fun b17 => ?_) (fun b17 => ?_)
          · have h := (if_pos b17).symm.trans h
            refine rx_p (L2 := [some (.ref 1), some (.ref q1), some (.ref q2), some (.int a3), some (.int a4), some (.int (-4))]) (S2 := [.ref q1]) (pc2 := 53) op37_52 rfl rfl ?_
            refine rx_gf (v := .int (m14.1 q1 6)) (pc2 := 56) op37_53 (hq1.1) rfl rfl rfl ?_
            refine rx_ic (v := 3) (pc2 := 57) op37_56 (by decide) rfl ?_
            refine ry_ic_lt (tgt := 62) (pc2 := 60) op37_57 (by decide) (by decide) rfl (fun b24 => ?_) (fun b24 => ?_)
            · have h := (if_pos b24).symm.trans h
              refine rx_p (L2 := [some (.ref 1), some (.ref q1), some (.ref q2), some (.int a3), some (.int a4), some (.int (-4))]) (S2 := [.ref 1]) (pc2 := 63) op37_62 rfl rfl ?_
              refine rx_p (L2 := [some (.ref 1), some (.ref q1), some (.ref q2), some (.int a3), some (.int a4), some (.int (-4))]) (S2 := [.ref 1, .ref 1]) (pc2 := 64) op37_63 rfl rfl ?_
              refine rx_gf (v := .int (m14.1 1 2)) (pc2 := 67) op37_64 sp_1 rfl rfl rfl ?_
              refine rx_ic (v := 1) (pc2 := 68) op37_67 (by decide) rfl ?_
              refine rx_p (L2 := [some (.ref 1), some (.ref q1), some (.ref q2), some (.int a3), some (.int a4), some (.int (-4))]) (S2 := [.int ((m14.1 1 2) + 1), .ref 1]) (pc2 := 69) op37_68 rfl rfl ?_
              obtain ⟨m25, em25, h⟩ := rq_bv h
              refine rx_pf (m2 := m25) (pc2 := 72) op37_69 sp_1 rfl em25 rfl ?_
              refine ry_go (tgt := 99) op37_72 (by decide) (by decide) ?_
              refine rx_p (L2 := [some (.ref 1), some (.ref q1), some (.ref q2), some (.int a3), some (.int a4), some (.int (-4))]) (S2 := [.ref q1]) (pc2 := 100) op37_99 rfl rfl ?_
              refine rx_p (L2 := [some (.ref 1), some (.ref q1), some (.ref q2), some (.int a3), some (.int a4), some (.int (-4))]) (S2 := [.int a3, .ref q1]) (pc2 := 101) op37_100 rfl rfl ?_
              refine rx_p (L2 := [some (.ref 1), some (.ref q1), some (.ref q2), some (.int a3), some (.int a4), some (.int (-4))]) (S2 := [.int (-4), .int a3, .ref q1]) (pc2 := 103) op37_101 rfl rfl ?_
              refine rx_p (L2 := [some (.ref 1), some (.ref q1), some (.ref q2), some (.int a3), some (.int a4), some (.int (-4))]) (S2 := [.ref q2, .int (-4), .int a3, .ref q1]) (pc2 := 104) op37_103 rfl rfl ?_
              refine rx_gf (v := .int (m25.1 q2 1)) (pc2 := 107) op37_104 hq2 rfl rfl rfl ?_
              obtain ⟨m26, f27, h⟩ := rq_bind h
              try dsimp only at h
              refine ry_iv (p := q1) (vs := [.int a3, .int (-4), .int (m25.1 q2 1)]) (T := []) (pc2 := 110) op37_107 ms_38 (by decide) rfl rfl (Nat.le_of_ble_eq_true rfl) (Nat.le_of_ble_eq_true rfl) (hq1.1) (ta_lay_ok xs (by omega) hq1 f27) rfl ?_
              show rn_R _ _ _ _ _ [] _ _ _
              obtain ⟨x28, ex28, h⟩ := rq_bv h
              refine rx_inc (w := 1) (v := x28) (L2 := [some (.ref 1), some (.ref q1), some (.ref q2), some (.int a3), some (.int x28), some (.int (-4))]) (pc2 := 113) op37_110 rfl (by decide) ex28 rfl rfl ?_
              refine ry_go (tgt := 3) op37_113 (by decide) (by decide) ?_
              exact ih _ _ _ hq1 hq2 h
            · have h := (if_neg b24).symm.trans h
              refine rx_ic (v := 0) (pc2 := 61) op37_60 (by decide) rfl ?_
              cases h
              obtain ⟨rfl, rfl⟩ := hl _ _ rfl
              exact ry_rz (x := 0) op37_61 ms_37 rfl (by decide)
          · have h := (if_neg b17).symm.trans h
            refine rx_p (L2 := [some (.ref 1), some (.ref q1), some (.ref q2), some (.int a3), some (.int a4), some (.int (-4))]) (S2 := [.ref 1]) (pc2 := 76) op37_75 rfl rfl ?_
            refine rx_p (L2 := [some (.ref 1), some (.ref q1), some (.ref q2), some (.int a3), some (.int a4), some (.int (-4))]) (S2 := [.ref q2, .ref 1]) (pc2 := 77) op37_76 rfl rfl ?_
            refine rx_gf (v := .int (m14.1 q2 3)) (pc2 := 80) op37_77 hq2 rfl rfl rfl ?_
            refine rx_ic (v := (-1)) (pc2 := 81) op37_80 (by decide) rfl ?_
            refine rx_p (L2 := [some (.ref 1), some (.ref q1), some (.ref q2), some (.int a3), some (.int a4), some (.int (-4))]) (S2 := [.int ((m14.1 q2 3) ^^^ (-1)), .ref 1]) (pc2 := 82) op37_81 rfl rfl ?_
            refine rx_p (L2 := [some (.ref 1), some (.ref q1), some (.ref q2), some (.int a3), some (.int a4), some (.int (-4))]) (S2 := [.ref q1, .int ((m14.1 q2 3) ^^^ (-1)), .ref 1]) (pc2 := 83) op37_82 rfl rfl ?_
            refine rx_gf (v := .int (m14.1 q1 5)) (pc2 := 86) op37_83 (hq1.1) rfl rfl rfl ?_
            refine rx_p (L2 := [some (.ref 1), some (.ref q1), some (.ref q2), some (.int a3), some (.int a4), some (.int (-4))]) (S2 := [.int (((m14.1 q2 3) ^^^ (-1)) ||| (m14.1 q1 5)), .ref 1]) (pc2 := 87) op37_86 rfl rfl ?_
            obtain ⟨⟨r30, m29⟩, f31, h⟩ := rq_bind h
            try dsimp only at h
            refine ry_iv (p := 1) (vs := [.int (((m14.1 q2 3) ^^^ (-1)) ||| (m14.1 q1 5))]) (T := []) (pc2 := 90) op37_87 ms_24 (by decide) rfl rfl (Nat.le_of_ble_eq_true rfl) (Nat.le_of_ble_eq_true rfl) sp_1 (tp_card_ok xs (by omega)  f31) rfl ?_
            show rn_R _ _ _ _ _ [.int r30] _ _ _
            refine rx_s (L2 := [some (.ref 1), some (.ref q1), some (.ref q2), some (.int a3), some (.int a4), some (.int r30)]) (pc2 := 92) op37_90 rfl rfl rfl ?_
            refine rx_p (L2 := [some (.ref 1), some (.ref q1), some (.ref q2), some (.int a3), some (.int a4), some (.int r30)]) (S2 := [.int r30]) (pc2 := 94) op37_92 rfl rfl ?_
            refine ry_if_ge (tgt := 99) (pc2 := 97) op37_94 (by decide) (by decide) rfl (fun b32 => ?_) (fun b32 => ?_)
            · have h := (if_pos b32).symm.trans h
              refine rx_ic (v := 0) (pc2 := 98) op37_97 (by decide) rfl ?_
              cases h
              obtain ⟨rfl, rfl⟩ := hl _ _ rfl
              exact ry_rz (x := 0) op37_98 ms_37 rfl (by decide)
            · have h := (if_neg b32).symm.trans h
              refine rx_p (L2 := [some (.ref 1), some (.ref q1), some (.ref q2), some (.int a3), some (.int a4), some (.int r30)]) (S2 := [.ref q1]) (pc2 := 100) op37_99 rfl rfl ?_
              refine rx_p (L2 := [some (.ref 1), some (.ref q1), some (.ref q2), some (.int a3), some (.int a4), some (.int r30)]) (S2 := [.int a3, .ref q1]) (pc2 := 101) op37_100 rfl rfl ?_
              refine rx_p (L2 := [some (.ref 1), some (.ref q1), some (.ref q2), some (.int a3), some (.int a4), some (.int r30)]) (S2 := [.int r30, .int a3, .ref q1]) (pc2 := 103) op37_101 rfl rfl ?_
              refine rx_p (L2 := [some (.ref 1), some (.ref q1), some (.ref q2), some (.int a3), some (.int a4), some (.int r30)]) (S2 := [.ref q2, .int r30, .int a3, .ref q1]) (pc2 := 104) op37_103 rfl rfl ?_
              refine rx_gf (v := .int (m29.1 q2 1)) (pc2 := 107) op37_104 hq2 rfl rfl rfl ?_
              obtain ⟨m33, f34, h⟩ := rq_bind h
              try dsimp only at h
              refine ry_iv (p := q1) (vs := [.int a3, .int r30, .int (m29.1 q2 1)]) (T := []) (pc2 := 110) op37_107 ms_38 (by decide) rfl rfl (Nat.le_of_ble_eq_true rfl) (Nat.le_of_ble_eq_true rfl) (hq1.1) (ta_lay_ok xs (by omega) hq1 f34) rfl ?_
              show rn_R _ _ _ _ _ [] _ _ _
              obtain ⟨x35, ex35, h⟩ := rq_bv h
              refine rx_inc (w := 1) (v := x35) (L2 := [some (.ref 1), some (.ref q1), some (.ref q2), some (.int a3), some (.int x35), some (.int r30)]) (pc2 := 113) op37_110 rfl (by decide) ex35 rfl rfl ?_
              refine ry_go (tgt := 3) op37_113 (by decide) (by decide) ?_
              exact ih _ _ _ hq1 hq2 h
        · have h := (if_neg b13).symm.trans h
          refine rx_ic (v := 0) (pc2 := 38) op37_37 (by decide) rfl ?_
          cases h
          obtain ⟨rfl, rfl⟩ := hl _ _ rfl
          exact ry_rz (x := 0) op37_38 ms_37 rfl (by decide)
      · have h := (if_neg b5).symm.trans h
        refine rx_p (L2 := [some (.ref 1), some (.ref q1), some (.ref q2), some (.int a3), some (.int a4), o5]) (S2 := [.ref 1]) (pc2 := 20) op37_19 rfl rfl ?_
        obtain ⟨⟨r37, m36⟩, f38, h⟩ := rq_bind h
        try dsimp only at h
        refine ry_iv (p := 1) (vs := []) (T := []) (pc2 := 23) op37_20 ms_25 (by decide) rfl rfl (Nat.le_of_ble_eq_true rfl) (Nat.le_of_ble_eq_true rfl) sp_1 (tp_peekSuit_ok xs (by omega)  f38) rfl ?_
        show rn_R _ _ _ _ _ [.int r37] _ _ _
        refine ry_if_lt (tgt := 116) (pc2 := 26) op37_23 (by decide) (by decide) rfl (fun b39 => ?_) (fun b39 => ?_)
        · have h := (if_pos b39).symm.trans h
          cases h
          exact hr _ rfl _ _ _
        · have h := (if_neg b39).symm.trans h
          refine rx_p (L2 := [some (.ref 1), some (.ref q1), some (.ref q2), some (.int a3), some (.int a4), o5]) (S2 := [.ref q1]) (pc2 := 27) op37_26 rfl rfl ?_
          refine rx_gf (v := .int (m36.1 q1 4)) (pc2 := 30) op37_27 (hq1.1) rfl rfl rfl ?_
          refine rx_p (L2 := [some (.ref 1), some (.ref q1), some (.ref q2), some (.int a3), some (.int a4), o5]) (S2 := [.ref q2, .int (m36.1 q1 4)]) (pc2 := 31) op37_30 rfl rfl ?_
          obtain ⟨⟨r41, m40⟩, f42, h⟩ := rq_bind h
          try dsimp only at h
          refine ry_iv (p := q2) (vs := []) (T := [.int (m36.1 q1 4)]) (pc2 := 34) op37_31 ms_23 (by decide) rfl rfl (Nat.le_of_ble_eq_true rfl) (Nat.le_of_ble_eq_true rfl) hq2 (ga_cards_ok xs (by omega) hq2 f42) rfl ?_
          show rn_R _ _ _ _ _ [.int r41, .int (m36.1 q1 4)] _ _ _
          refine ry_ic_lt (tgt := 39) (pc2 := 37) op37_34 (by decide) (by decide) rfl (fun b43 => ?_) (fun b43 => ?_)
          · have h := (if_pos b43).symm.trans h
            refine rx_bp (v := (-4)) (pc2 := 41) op37_39 (by decide) rfl ?_
            refine rx_s (L2 := [some (.ref 1), some (.ref q1), some (.ref q2), some (.int a3), some (.int a4), some (.int (-4))]) (pc2 := 43) op37_41 rfl rfl rfl ?_
            refine rx_p (L2 := [some (.ref 1), some (.ref q1), some (.ref q2), some (.int a3), some (.int a4), some (.int (-4))]) (S2 := [.ref 1]) (pc2 := 44) op37_43 rfl rfl ?_
            obtain ⟨⟨r45, m44⟩, f46, h⟩ := rq_bind h
            try dsimp only at h
            refine ry_iv (p := 1) (vs := []) (T := []) (pc2 := 47) op37_44 ms_19 (by decide) rfl rfl (Nat.le_of_ble_eq_true rfl) (Nat.le_of_ble_eq_true rfl) sp_1 (tp_peek_ok xs (by omega)  f46) rfl ?_
            show rn_R _ _ _ _ _ [.int r45] _ _ _
            refine rx_bp (v := 63) (pc2 := 49) op37_47 (by decide) rfl ?_
            refine ry_ic_ne (tgt := 75) (pc2 := 52) op37_49 (by decide) (by decide) rfl (fun b47 => ?_) (fun b47 => ?_)
            · have h := (if_pos b47).symm.trans h
              refine rx_p (L2 := [some (.ref 1), some (.ref q1), some (.ref q2), some (.int a3), some (.int a4), some (.int (-4))]) (S2 := [.ref q1]) (pc2 := 53) op37_52 rfl rfl ?_
              refine rx_gf (v := .int (m44.1 q1 6)) (pc2 := 56) op37_53 (hq1.1) rfl rfl rfl ?_
              refine rx_ic (v := 3) (pc2 := 57) op37_56 (by decide) rfl ?_
              refine ry_ic_lt (tgt := 62) (pc2 := 60) op37_57 (by decide) (by decide) rfl (fun b54 => ?_) (fun b54 => ?_)
              · have h := (if_pos b54).symm.trans h
                refine rx_p (L2 := [some (.ref 1), some (.ref q1), some (.ref q2), some (.int a3), some (.int a4), some (.int (-4))]) (S2 := [.ref 1]) (pc2 := 63) op37_62 rfl rfl ?_
                refine rx_p (L2 := [some (.ref 1), some (.ref q1), some (.ref q2), some (.int a3), some (.int a4), some (.int (-4))]) (S2 := [.ref 1, .ref 1]) (pc2 := 64) op37_63 rfl rfl ?_
                refine rx_gf (v := .int (m44.1 1 2)) (pc2 := 67) op37_64 sp_1 rfl rfl rfl ?_
                refine rx_ic (v := 1) (pc2 := 68) op37_67 (by decide) rfl ?_
                refine rx_p (L2 := [some (.ref 1), some (.ref q1), some (.ref q2), some (.int a3), some (.int a4), some (.int (-4))]) (S2 := [.int ((m44.1 1 2) + 1), .ref 1]) (pc2 := 69) op37_68 rfl rfl ?_
                obtain ⟨m55, em55, h⟩ := rq_bv h
                refine rx_pf (m2 := m55) (pc2 := 72) op37_69 sp_1 rfl em55 rfl ?_
                refine ry_go (tgt := 99) op37_72 (by decide) (by decide) ?_
                refine rx_p (L2 := [some (.ref 1), some (.ref q1), some (.ref q2), some (.int a3), some (.int a4), some (.int (-4))]) (S2 := [.ref q1]) (pc2 := 100) op37_99 rfl rfl ?_
                refine rx_p (L2 := [some (.ref 1), some (.ref q1), some (.ref q2), some (.int a3), some (.int a4), some (.int (-4))]) (S2 := [.int a3, .ref q1]) (pc2 := 101) op37_100 rfl rfl ?_
                refine rx_p (L2 := [some (.ref 1), some (.ref q1), some (.ref q2), some (.int a3), some (.int a4), some (.int (-4))]) (S2 := [.int (-4), .int a3, .ref q1]) (pc2 := 103) op37_101 rfl rfl ?_
                refine rx_p (L2 := [some (.ref 1), some (.ref q1), some (.ref q2), some (.int a3), some (.int a4), some (.int (-4))]) (S2 := [.ref q2, .int (-4), .int a3, .ref q1]) (pc2 := 104) op37_103 rfl rfl ?_
                refine rx_gf (v := .int (m55.1 q2 1)) (pc2 := 107) op37_104 hq2 rfl rfl rfl ?_
                obtain ⟨m56, f57, h⟩ := rq_bind h
                try dsimp only at h
                refine ry_iv (p := q1) (vs := [.int a3, .int (-4), .int (m55.1 q2 1)]) (T := []) (pc2 := 110) op37_107 ms_38 (by decide) rfl rfl (Nat.le_of_ble_eq_true rfl) (Nat.le_of_ble_eq_true rfl) (hq1.1) (ta_lay_ok xs (by omega) hq1 f57) rfl ?_
                show rn_R _ _ _ _ _ [] _ _ _
                obtain ⟨x58, ex58, h⟩ := rq_bv h
                refine rx_inc (w := 1) (v := x58) (L2 := [some (.ref 1), some (.ref q1), some (.ref q2), some (.int a3), some (.int x58), some (.int (-4))]) (pc2 := 113) op37_110 rfl (by decide) ex58 rfl rfl ?_
                refine ry_go (tgt := 3) op37_113 (by decide) (by decide) ?_
                exact ih _ _ _ hq1 hq2 h
              · have h := (if_neg b54).symm.trans h
                refine rx_ic (v := 0) (pc2 := 61) op37_60 (by decide) rfl ?_
                cases h
                obtain ⟨rfl, rfl⟩ := hl _ _ rfl
                exact ry_rz (x := 0) op37_61 ms_37 rfl (by decide)
            · have h := (if_neg b47).symm.trans h
              refine rx_p (L2 := [some (.ref 1), some (.ref q1), some (.ref q2), some (.int a3), some (.int a4), some (.int (-4))]) (S2 := [.ref 1]) (pc2 := 76) op37_75 rfl rfl ?_
              refine rx_p (L2 := [some (.ref 1), some (.ref q1), some (.ref q2), some (.int a3), some (.int a4), some (.int (-4))]) (S2 := [.ref q2, .ref 1]) (pc2 := 77) op37_76 rfl rfl ?_
              refine rx_gf (v := .int (m44.1 q2 3)) (pc2 := 80) op37_77 hq2 rfl rfl rfl ?_
              refine rx_ic (v := (-1)) (pc2 := 81) op37_80 (by decide) rfl ?_
              refine rx_p (L2 := [some (.ref 1), some (.ref q1), some (.ref q2), some (.int a3), some (.int a4), some (.int (-4))]) (S2 := [.int ((m44.1 q2 3) ^^^ (-1)), .ref 1]) (pc2 := 82) op37_81 rfl rfl ?_
              refine rx_p (L2 := [some (.ref 1), some (.ref q1), some (.ref q2), some (.int a3), some (.int a4), some (.int (-4))]) (S2 := [.ref q1, .int ((m44.1 q2 3) ^^^ (-1)), .ref 1]) (pc2 := 83) op37_82 rfl rfl ?_
              refine rx_gf (v := .int (m44.1 q1 5)) (pc2 := 86) op37_83 (hq1.1) rfl rfl rfl ?_
              refine rx_p (L2 := [some (.ref 1), some (.ref q1), some (.ref q2), some (.int a3), some (.int a4), some (.int (-4))]) (S2 := [.int (((m44.1 q2 3) ^^^ (-1)) ||| (m44.1 q1 5)), .ref 1]) (pc2 := 87) op37_86 rfl rfl ?_
              obtain ⟨⟨r60, m59⟩, f61, h⟩ := rq_bind h
              try dsimp only at h
              refine ry_iv (p := 1) (vs := [.int (((m44.1 q2 3) ^^^ (-1)) ||| (m44.1 q1 5))]) (T := []) (pc2 := 90) op37_87 ms_24 (by decide) rfl rfl (Nat.le_of_ble_eq_true rfl) (Nat.le_of_ble_eq_true rfl) sp_1 (tp_card_ok xs (by omega)  f61) rfl ?_
              show rn_R _ _ _ _ _ [.int r60] _ _ _
              refine rx_s (L2 := [some (.ref 1), some (.ref q1), some (.ref q2), some (.int a3), some (.int a4), some (.int r60)]) (pc2 := 92) op37_90 rfl rfl rfl ?_
              refine rx_p (L2 := [some (.ref 1), some (.ref q1), some (.ref q2), some (.int a3), some (.int a4), some (.int r60)]) (S2 := [.int r60]) (pc2 := 94) op37_92 rfl rfl ?_
              refine ry_if_ge (tgt := 99) (pc2 := 97) op37_94 (by decide) (by decide) rfl (fun b62 => ?_) (fun b62 => ?_)
              · have h := (if_pos b62).symm.trans h
                refine rx_ic (v := 0) (pc2 := 98) op37_97 (by decide) rfl ?_
                cases h
                obtain ⟨rfl, rfl⟩ := hl _ _ rfl
                exact ry_rz (x := 0) op37_98 ms_37 rfl (by decide)
              · have h := (if_neg b62).symm.trans h
                refine rx_p (L2 := [some (.ref 1), some (.ref q1), some (.ref q2), some (.int a3), some (.int a4), some (.int r60)]) (S2 := [.ref q1]) (pc2 := 100) op37_99 rfl rfl ?_
                refine rx_p (L2 := [some (.ref 1), some (.ref q1), some (.ref q2), some (.int a3), some (.int a4), some (.int r60)]) (S2 := [.int a3, .ref q1]) (pc2 := 101) op37_100 rfl rfl ?_
                refine rx_p (L2 := [some (.ref 1), some (.ref q1), some (.ref q2), some (.int a3), some (.int a4), some (.int r60)]) (S2 := [.int r60, .int a3, .ref q1]) (pc2 := 103) op37_101 rfl rfl ?_
                refine rx_p (L2 := [some (.ref 1), some (.ref q1), some (.ref q2), some (.int a3), some (.int a4), some (.int r60)]) (S2 := [.ref q2, .int r60, .int a3, .ref q1]) (pc2 := 104) op37_103 rfl rfl ?_
                refine rx_gf (v := .int (m59.1 q2 1)) (pc2 := 107) op37_104 hq2 rfl rfl rfl ?_
                obtain ⟨m63, f64, h⟩ := rq_bind h
                try dsimp only at h
                refine ry_iv (p := q1) (vs := [.int a3, .int r60, .int (m59.1 q2 1)]) (T := []) (pc2 := 110) op37_107 ms_38 (by decide) rfl rfl (Nat.le_of_ble_eq_true rfl) (Nat.le_of_ble_eq_true rfl) (hq1.1) (ta_lay_ok xs (by omega) hq1 f64) rfl ?_
                show rn_R _ _ _ _ _ [] _ _ _
                obtain ⟨x65, ex65, h⟩ := rq_bv h
                refine rx_inc (w := 1) (v := x65) (L2 := [some (.ref 1), some (.ref q1), some (.ref q2), some (.int a3), some (.int x65), some (.int r60)]) (pc2 := 113) op37_110 rfl (by decide) ex65 rfl rfl ?_
                refine ry_go (tgt := 3) op37_113 (by decide) (by decide) ?_
                exact ih _ _ _ hq1 hq2 h
          · have h := (if_neg b43).symm.trans h
            refine rx_ic (v := 0) (pc2 := 38) op37_37 (by decide) rfl ?_
            cases h
            obtain ⟨rfl, rfl⟩ := hl _ _ rfl
            exact ry_rz (x := 0) op37_38 ms_37 rfl (by decide)
set_option maxHeartbeats 4000000 in
set_option maxRecDepth 20000 in
theorem tp_readHeap_ok (xs : List Int32) {d : Nat} (hd : 3 ≤ d) {n : Nat} {q1 : Nat} {q2 : Nat} {a3 : Int32} {m mO : rn_Mem} {rO : Int32} (hq1 : sA_Table q1) (hq2 : sA_Game q2) (h : tp_readHeap n q1 q2 a3 m = some (rO, mO)) : rn_R xs d 37 0 (rn_ent 6 [.ref 1, .ref q1, .ref q2, .int a3]) [] (rn_SH, m) (some (.int rO)) (rn_SH, mO) := by
  obtain ⟨d, rfl⟩ : ∃ e, d = e + 1 := ⟨d - 1, by omega⟩
  unfold tp_readHeap at h
  show rn_R xs (d + 1) 37 0 [some (.ref 1), some (.ref q1), some (.ref q2), some (.int a3), none, none] [] (rn_SH, m) (some (.int rO)) (rn_SH, mO)
  refine rx_ic (v := 0) (pc2 := 1) op37_0 (by decide) rfl ?_
  refine rx_s (L2 := [some (.ref 1), some (.ref q1), some (.ref q2), some (.int a3), some (.int 0), none]) (pc2 := 3) op37_1 rfl rfl rfl ?_
  obtain ⟨wf74, f74, h⟩ := rq_bind h
  refine tp_readHeap_l3_ok xs hd (fun v0 m0 eq => ?_) (fun m66 eq => ?_) _ _ _ _ hq1 hq2 f74
  · subst eq
    try dsimp only at h
    cases h
    exact ⟨rfl, rfl⟩
  · subst eq
    try dsimp only at h
    intro o67 o68 o69
    refine rx_p (L2 := [o67, some (.ref q1), some (.ref q2), some (.int a3), o68, o69]) (S2 := [.ref q1]) (pc2 := 117) op37_116 rfl rfl ?_
    refine rx_p (L2 := [o67, some (.ref q1), some (.ref q2), some (.int a3), o68, o69]) (S2 := [.int a3, .ref q1]) (pc2 := 118) op37_117 rfl rfl ?_
    refine rx_p (L2 := [o67, some (.ref q1), some (.ref q2), some (.int a3), o68, o69]) (S2 := [.ref q2, .int a3, .ref q1]) (pc2 := 119) op37_118 rfl rfl ?_
    refine rx_gf (v := .int (m66.1 q2 1)) (pc2 := 122) op37_119 hq2 rfl rfl rfl ?_
    obtain ⟨⟨r71, m70⟩, f72, h⟩ := rq_bind h
    try dsimp only at h
    refine ry_iv (p := q1) (vs := [.int a3, .int (m66.1 q2 1)]) (T := []) (pc2 := 125) op37_122 ms_40 (by decide) rfl rfl (Nat.le_of_ble_eq_true rfl) (Nat.le_of_ble_eq_true rfl) (hq1.1) (ta_whole_ok xs (by omega) hq1 f72) rfl ?_
    show rn_R _ _ _ _ _ [.int r71] _ _ _
    obtain ⟨k73, h⟩ := rq_chk h
    obtain ⟨rfl, rfl⟩ := rq_ret h
    exact ry_rz (x := r71) op37_125 ms_37 rfl k73
/-! tp_readTable -/
theorem op35_0 : rn_op 35 0 = some (.aload_n 1, 1, 0, 0, 0) := by decide +kernel
theorem op35_1 : rn_op 35 1 = some (.invokevirtual 48, 3, 36, 1, 7) := by decide +kernel
theorem op35_4 : rn_op 35 4 = some (.iconst 0, 1, 0, 0, 0) := by decide +kernel
theorem op35_5 : rn_op 35 5 = some (.istore_n 3, 1, 0, 0, 0) := by decide +kernel
theorem op35_6 : rn_op 35 6 = some (.iload_n 3, 1, 0, 0, 0) := by decide +kernel
theorem op35_7 : rn_op 35 7 = some (.aload_n 2, 1, 0, 0, 0) := by decide +kernel
theorem op35_8 : rn_op 35 8 = some (.getfield 53, 3, 1, 1, 0) := by decide +kernel
theorem op35_11 : rn_op 35 11 = some (.if_icmp .ge 36, 3, 0, 0, 0) := by decide +kernel
theorem op35_14 : rn_op 35 14 = some (.iload_n 3, 1, 0, 0, 0) := by decide +kernel
theorem op35_15 : rn_op 35 15 = some (.ifCond .le 14, 3, 0, 0, 0) := by decide +kernel
theorem op35_18 : rn_op 35 18 = some (.aload_n 0, 1, 0, 0, 0) := by decide +kernel
theorem op35_19 : rn_op 35 19 = some (.bipush 59, 2, 0, 0, 0) := by decide +kernel
theorem op35_21 : rn_op 35 21 = some (.invokevirtual 56, 3, 18, 2, 8) := by decide +kernel
theorem op35_24 : rn_op 35 24 = some (.ifCond .ne 5, 3, 0, 0, 0) := by decide +kernel
theorem op35_27 : rn_op 35 27 = some (.iconst 0, 1, 0, 0, 0) := by decide +kernel
theorem op35_28 : rn_op 35 28 = some (.ireturn, 1, 0, 0, 0) := by decide +kernel
theorem op35_29 : rn_op 35 29 = some (.aload_n 0, 1, 0, 0, 0) := by decide +kernel
theorem op35_30 : rn_op 35 30 = some (.aload_n 1, 1, 0, 0, 0) := by decide +kernel
theorem op35_31 : rn_op 35 31 = some (.aload_n 2, 1, 0, 0, 0) := by decide +kernel
theorem op35_32 : rn_op 35 32 = some (.iload_n 3, 1, 0, 0, 0) := by decide +kernel
theorem op35_33 : rn_op 35 33 = some (.invokevirtual 60, 3, 37, 4, 8) := by decide +kernel
theorem op35_36 : rn_op 35 36 = some (.ifCond .ne 5, 3, 0, 0, 0) := by decide +kernel
theorem op35_39 : rn_op 35 39 = some (.iconst 0, 1, 0, 0, 0) := by decide +kernel
theorem op35_40 : rn_op 35 40 = some (.ireturn, 1, 0, 0, 0) := by decide +kernel
theorem op35_41 : rn_op 35 41 = some (.iinc 3 1, 3, 0, 0, 0) := by decide +kernel
theorem op35_44 : rn_op 35 44 = some (.goto (-38), 3, 0, 0, 0) := by decide +kernel
theorem op35_47 : rn_op 35 47 = some (.aload_n 0, 1, 0, 0, 0) := by decide +kernel
theorem op35_48 : rn_op 35 48 = some (.invokevirtual 44, 3, 29, 1, 8) := by decide +kernel
theorem op35_51 : rn_op 35 51 = some (.ifCond .eq 18, 3, 0, 0, 0) := by decide +kernel
theorem op35_54 : rn_op 35 54 = some (.aload_n 1, 1, 0, 0, 0) := by decide +kernel
theorem op35_55 : rn_op 35 55 = some (.getfield 64, 3, 7, 4, 0) := by decide +kernel
theorem op35_58 : rn_op 35 58 = some (.aload_n 2, 1, 0, 0, 0) := by decide +kernel
theorem op35_59 : rn_op 35 59 = some (.invokevirtual 67, 3, 23, 1, 1) := by decide +kernel
theorem op35_62 : rn_op 35 62 = some (.if_icmp .ne 7, 3, 0, 0, 0) := by decide +kernel
theorem op35_65 : rn_op 35 65 = some (.iconst 1, 1, 0, 0, 0) := by decide +kernel
theorem op35_66 : rn_op 35 66 = some (.goto 4, 3, 0, 0, 0) := by decide +kernel
theorem op35_69 : rn_op 35 69 = some (.iconst 0, 1, 0, 0, 0) := by decide +kernel
theorem op35_70 : rn_op 35 70 = some (.ireturn, 1, 0, 0, 0) := by decide +kernel
def tp_readTable_l6 (q1 : Nat) (q2 : Nat) : Nat → Int32 → rn_Mem → Option ((Int32 × rn_Mem) ⊕ (rn_Mem))
  | 0, _, _ => none
  | n + 1, a3, m =>
    if a3 < (m.1 q2 1) then
      if 0 < a3 then
        (tp_take n 59 m).bind fun (r10, m9) =>
        if r10 = 0 then
          some (.inl (0, m9))
        else
          (tp_readHeap n q1 q2 a3 m9).bind fun (r14, m13) =>
          if r14 = 0 then
            some (.inl (0, m13))
          else
            (some (a3 + 1)).bind fun (x17 : Int32) =>
            tp_readTable_l6 q1 q2 n x17 m13
      else
        (tp_readHeap n q1 q2 a3 m).bind fun (r19, m18) =>
        if r19 = 0 then
          some (.inl (0, m18))
        else
          (some (a3 + 1)).bind fun (x22 : Int32) =>
          tp_readTable_l6 q1 q2 n x22 m18
    else
      some (.inr m)
def tp_readTable (n : Nat) (q1 : Nat) (q2 : Nat) (m : rn_Mem) : Option (Int32 × rn_Mem) :=
  (ta_clear n q1 m).bind fun m1 =>
  (tp_readTable_l6 q1 q2 n 0 m1).bind fun q => match q with
  | .inl o => some o
  | .inr m23 =>
  (tp_ended n m23).bind fun (r26, m25) =>
  if r26 = 0 then
    some (0, m25)
  else
    (ga_cards n q2 m25).bind fun (r30, m29) =>
    if (m25.1 q1 4) = r30 then
      some (1, m29)
    else
      some (0, m29)
set_option maxHeartbeats 4000000 in
set_option maxRecDepth 20000 in
theorem tp_readTable_l6_ok (xs : List Int32) {d : Nat} (hd : 4 ≤ d + 1) {q1 : Nat} {q2 : Nat} {r : Option Value} {τ : rn_H} {out : (Int32 × rn_Mem) ⊕ (rn_Mem)} (hl : ∀ (rO : Int32) (mO : rn_Mem), out = .inl (rO, mO) → r = (some (.int rO)) ∧ τ = (rn_SH, mO)) (hr : ∀ (mO : rn_Mem), out = .inr mO → ∀ (o3 : Option Value), rn_R xs (d + 1) 35 47 [some (.ref 1), some (.ref q1), some (.ref q2), o3] [] (rn_SH, mO) r τ) : ∀ (n : Nat) (a3 : Int32) (m : rn_Mem), sA_Table q1 → sA_Game q2 → tp_readTable_l6 q1 q2 n a3 m = some out → rn_R xs (d + 1) 35 6 [some (.ref 1), some (.ref q1), some (.ref q2), some (.int a3)] [] (rn_SH, m) r τ := by
  intro n
  induction n with
  | zero =>
    intro _ _ _ _ h
    cases h
  | succ n ih =>
    intro a3 m hq1 hq2 h
    unfold tp_readTable_l6 at h
    try dsimp only at h
    refine rx_p (L2 := [some (.ref 1), some (.ref q1), some (.ref q2), some (.int a3)]) (S2 := [.int a3]) (pc2 := 7) op35_6 rfl rfl ?_
    refine rx_p (L2 := [some (.ref 1), some (.ref q1), some (.ref q2), some (.int a3)]) (S2 := [.ref q2, .int a3]) (pc2 := 8) op35_7 rfl rfl ?_
    refine rx_gf (v := .int (m.1 q2 1)) (pc2 := 11) op35_8 hq2 rfl rfl rfl ?_
    refine ry_ic_ge (tgt := 47) (pc2 := 14) op35_11 (by decide) (by decide) rfl (fun b3 => ?_) (fun b3 => ?_)
    · have h := (if_pos b3).symm.trans h
      refine rx_p (L2 := [some (.ref 1), some (.ref q1), some (.ref q2), some (.int a3)]) (S2 := [.int a3]) (pc2 := 15) op35_14 rfl rfl ?_
      refine ry_if_le (tgt := 29) (pc2 := 18) op35_15 (by decide) (by decide) rfl (fun b4 => ?_) (fun b4 => ?_)
      · have h := (if_pos b4).symm.trans h
        refine rx_p (L2 := [some (.ref 1), some (.ref q1), some (.ref q2), some (.int a3)]) (S2 := [.ref 1]) (pc2 := 19) op35_18 rfl rfl ?_
        refine rx_bp (v := 59) (pc2 := 21) op35_19 (by decide) rfl ?_
        obtain ⟨⟨r10, m9⟩, f11, h⟩ := rq_bind h
        try dsimp only at h
        refine ry_iv (p := 1) (vs := [.int 59]) (T := []) (pc2 := 24) op35_21 ms_18 (by decide) rfl rfl (Nat.le_of_ble_eq_true rfl) (Nat.le_of_ble_eq_true rfl) sp_1 (tp_take_ok xs (by omega)  f11) rfl ?_
        show rn_R _ _ _ _ _ [.int r10] _ _ _
        refine ry_if_ne (tgt := 29) (pc2 := 27) op35_24 (by decide) (by decide) rfl (fun b12 => ?_) (fun b12 => ?_)
        · have h := (if_pos b12).symm.trans h
          refine rx_ic (v := 0) (pc2 := 28) op35_27 (by decide) rfl ?_
          cases h
          obtain ⟨rfl, rfl⟩ := hl _ _ rfl
          exact ry_rz (x := 0) op35_28 ms_35 rfl (by decide)
        · have h := (if_neg b12).symm.trans h
          refine rx_p (L2 := [some (.ref 1), some (.ref q1), some (.ref q2), some (.int a3)]) (S2 := [.ref 1]) (pc2 := 30) op35_29 rfl rfl ?_
          refine rx_p (L2 := [some (.ref 1), some (.ref q1), some (.ref q2), some (.int a3)]) (S2 := [.ref q1, .ref 1]) (pc2 := 31) op35_30 rfl rfl ?_
          refine rx_p (L2 := [some (.ref 1), some (.ref q1), some (.ref q2), some (.int a3)]) (S2 := [.ref q2, .ref q1, .ref 1]) (pc2 := 32) op35_31 rfl rfl ?_
          refine rx_p (L2 := [some (.ref 1), some (.ref q1), some (.ref q2), some (.int a3)]) (S2 := [.int a3, .ref q2, .ref q1, .ref 1]) (pc2 := 33) op35_32 rfl rfl ?_
          obtain ⟨⟨r14, m13⟩, f15, h⟩ := rq_bind h
          try dsimp only at h
          refine ry_iv (p := 1) (vs := [.ref q1, .ref q2, .int a3]) (T := []) (pc2 := 36) op35_33 ms_37 (by decide) rfl rfl (Nat.le_of_ble_eq_true rfl) (Nat.le_of_ble_eq_true rfl) sp_1 (tp_readHeap_ok xs (by omega) hq1 hq2 f15) rfl ?_
          show rn_R _ _ _ _ _ [.int r14] _ _ _
          refine ry_if_ne (tgt := 41) (pc2 := 39) op35_36 (by decide) (by decide) rfl (fun b16 => ?_) (fun b16 => ?_)
          · have h := (if_pos b16).symm.trans h
            refine rx_ic (v := 0) (pc2 := 40) op35_39 (by decide) rfl ?_
            cases h
            obtain ⟨rfl, rfl⟩ := hl _ _ rfl
            exact ry_rz (x := 0) op35_40 ms_35 rfl (by decide)
          · have h := (if_neg b16).symm.trans h
            obtain ⟨x17, ex17, h⟩ := rq_bv h
            refine rx_inc (w := 1) (v := x17) (L2 := [some (.ref 1), some (.ref q1), some (.ref q2), some (.int x17)]) (pc2 := 44) op35_41 rfl (by decide) ex17 rfl rfl ?_
            refine ry_go (tgt := 6) op35_44 (by decide) (by decide) ?_
            exact ih _ _ hq1 hq2 h
      · have h := (if_neg b4).symm.trans h
        refine rx_p (L2 := [some (.ref 1), some (.ref q1), some (.ref q2), some (.int a3)]) (S2 := [.ref 1]) (pc2 := 30) op35_29 rfl rfl ?_
        refine rx_p (L2 := [some (.ref 1), some (.ref q1), some (.ref q2), some (.int a3)]) (S2 := [.ref q1, .ref 1]) (pc2 := 31) op35_30 rfl rfl ?_
        refine rx_p (L2 := [some (.ref 1), some (.ref q1), some (.ref q2), some (.int a3)]) (S2 := [.ref q2, .ref q1, .ref 1]) (pc2 := 32) op35_31 rfl rfl ?_
        refine rx_p (L2 := [some (.ref 1), some (.ref q1), some (.ref q2), some (.int a3)]) (S2 := [.int a3, .ref q2, .ref q1, .ref 1]) (pc2 := 33) op35_32 rfl rfl ?_
        obtain ⟨⟨r19, m18⟩, f20, h⟩ := rq_bind h
        try dsimp only at h
        refine ry_iv (p := 1) (vs := [.ref q1, .ref q2, .int a3]) (T := []) (pc2 := 36) op35_33 ms_37 (by decide) rfl rfl (Nat.le_of_ble_eq_true rfl) (Nat.le_of_ble_eq_true rfl) sp_1 (tp_readHeap_ok xs (by omega) hq1 hq2 f20) rfl ?_
        show rn_R _ _ _ _ _ [.int r19] _ _ _
        refine ry_if_ne (tgt := 41) (pc2 := 39) op35_36 (by decide) (by decide) rfl (fun b21 => ?_) (fun b21 => ?_)
        · have h := (if_pos b21).symm.trans h
          refine rx_ic (v := 0) (pc2 := 40) op35_39 (by decide) rfl ?_
          cases h
          obtain ⟨rfl, rfl⟩ := hl _ _ rfl
          exact ry_rz (x := 0) op35_40 ms_35 rfl (by decide)
        · have h := (if_neg b21).symm.trans h
          obtain ⟨x22, ex22, h⟩ := rq_bv h
          refine rx_inc (w := 1) (v := x22) (L2 := [some (.ref 1), some (.ref q1), some (.ref q2), some (.int x22)]) (pc2 := 44) op35_41 rfl (by decide) ex22 rfl rfl ?_
          refine ry_go (tgt := 6) op35_44 (by decide) (by decide) ?_
          exact ih _ _ hq1 hq2 h
    · have h := (if_neg b3).symm.trans h
      cases h
      exact hr _ rfl _
set_option maxHeartbeats 4000000 in
set_option maxRecDepth 20000 in
theorem tp_readTable_ok (xs : List Int32) {d : Nat} (hd : 4 ≤ d) {n : Nat} {q1 : Nat} {q2 : Nat} {m mO : rn_Mem} {rO : Int32} (hq1 : sA_Table q1) (hq2 : sA_Game q2) (h : tp_readTable n q1 q2 m = some (rO, mO)) : rn_R xs d 35 0 (rn_ent 4 [.ref 1, .ref q1, .ref q2]) [] (rn_SH, m) (some (.int rO)) (rn_SH, mO) := by
  obtain ⟨d, rfl⟩ : ∃ e, d = e + 1 := ⟨d - 1, by omega⟩
  unfold tp_readTable at h
  show rn_R xs (d + 1) 35 0 [some (.ref 1), some (.ref q1), some (.ref q2), none] [] (rn_SH, m) (some (.int rO)) (rn_SH, mO)
  refine rx_p (L2 := [some (.ref 1), some (.ref q1), some (.ref q2), none]) (S2 := [.ref q1]) (pc2 := 1) op35_0 rfl rfl ?_
  obtain ⟨m1, f2, h⟩ := rq_bind h
  try dsimp only at h
  refine ry_iv (p := q1) (vs := []) (T := []) (pc2 := 4) op35_1 ms_36 (by decide) rfl rfl (Nat.le_of_ble_eq_true rfl) (Nat.le_of_ble_eq_true rfl) (hq1.1) (ta_clear_ok xs (by omega) hq1 f2) rfl ?_
  show rn_R _ _ _ _ _ [] _ _ _
  refine rx_ic (v := 0) (pc2 := 5) op35_4 (by decide) rfl ?_
  refine rx_s (L2 := [some (.ref 1), some (.ref q1), some (.ref q2), some (.int 0)]) (pc2 := 6) op35_5 rfl rfl rfl ?_
  obtain ⟨wf33, f33, h⟩ := rq_bind h
  refine tp_readTable_l6_ok xs hd (fun v0 m0 eq => ?_) (fun m23 eq => ?_) _ _ _ hq1 hq2 f33
  · subst eq
    try dsimp only at h
    cases h
    exact ⟨rfl, rfl⟩
  · subst eq
    try dsimp only at h
    intro o24
    refine rx_p (L2 := [some (.ref 1), some (.ref q1), some (.ref q2), o24]) (S2 := [.ref 1]) (pc2 := 48) op35_47 rfl rfl ?_
    obtain ⟨⟨r26, m25⟩, f27, h⟩ := rq_bind h
    try dsimp only at h
    refine ry_iv (p := 1) (vs := []) (T := []) (pc2 := 51) op35_48 ms_29 (by decide) rfl rfl (Nat.le_of_ble_eq_true rfl) (Nat.le_of_ble_eq_true rfl) sp_1 (tp_ended_ok xs (by omega)  f27) rfl ?_
    show rn_R _ _ _ _ _ [.int r26] _ _ _
    refine ry_if_eq (tgt := 69) (pc2 := 54) op35_51 (by decide) (by decide) rfl (fun b28 => ?_) (fun b28 => ?_)
    · have h := (if_pos b28).symm.trans h
      refine rx_ic (v := 0) (pc2 := 70) op35_69 (by decide) rfl ?_
      obtain ⟨rfl, rfl⟩ := rq_ret h
      exact ry_rz (x := 0) op35_70 ms_35 rfl (by decide)
    · have h := (if_neg b28).symm.trans h
      refine rx_p (L2 := [some (.ref 1), some (.ref q1), some (.ref q2), o24]) (S2 := [.ref q1]) (pc2 := 55) op35_54 rfl rfl ?_
      refine rx_gf (v := .int (m25.1 q1 4)) (pc2 := 58) op35_55 (hq1.1) rfl rfl rfl ?_
      refine rx_p (L2 := [some (.ref 1), some (.ref q1), some (.ref q2), o24]) (S2 := [.ref q2, .int (m25.1 q1 4)]) (pc2 := 59) op35_58 rfl rfl ?_
      obtain ⟨⟨r30, m29⟩, f31, h⟩ := rq_bind h
      try dsimp only at h
      refine ry_iv (p := q2) (vs := []) (T := [.int (m25.1 q1 4)]) (pc2 := 62) op35_59 ms_23 (by decide) rfl rfl (Nat.le_of_ble_eq_true rfl) (Nat.le_of_ble_eq_true rfl) hq2 (ga_cards_ok xs (by omega) hq2 f31) rfl ?_
      show rn_R _ _ _ _ _ [.int r30, .int (m25.1 q1 4)] _ _ _
      refine ry_ic_ne (tgt := 69) (pc2 := 65) op35_62 (by decide) (by decide) rfl (fun b32 => ?_) (fun b32 => ?_)
      · have h := (if_pos b32).symm.trans h
        refine rx_ic (v := 1) (pc2 := 66) op35_65 (by decide) rfl ?_
        refine ry_go (tgt := 70) op35_66 (by decide) (by decide) ?_
        obtain ⟨rfl, rfl⟩ := rq_ret h
        exact ry_rz (x := 1) op35_70 ms_35 rfl (by decide)
      · have h := (if_neg b32).symm.trans h
        refine rx_ic (v := 0) (pc2 := 70) op35_69 (by decide) rfl ?_
        obtain ⟨rfl, rfl⟩ := rq_ret h
        exact ry_rz (x := 0) op35_70 ms_35 rfl (by decide)
/-! ta_copy -/
theorem op41_0 : rn_op 41 0 = some (.aload_n 0, 1, 0, 0, 0) := by decide +kernel
theorem op41_1 : rn_op 41 1 = some (.aload_n 1, 1, 0, 0, 0) := by decide +kernel
theorem op41_2 : rn_op 41 2 = some (.getfield 21, 3, 7, 0, 2) := by decide +kernel
theorem op41_5 : rn_op 41 5 = some (.putfield 21, 3, 7, 0, 2) := by decide +kernel
theorem op41_8 : rn_op 41 8 = some (.aload_n 0, 1, 0, 0, 0) := by decide +kernel
theorem op41_9 : rn_op 41 9 = some (.aload_n 1, 1, 0, 0, 0) := by decide +kernel
theorem op41_10 : rn_op 41 10 = some (.getfield 25, 3, 7, 4, 0) := by decide +kernel
theorem op41_13 : rn_op 41 13 = some (.putfield 25, 3, 7, 4, 0) := by decide +kernel
theorem op41_16 : rn_op 41 16 = some (.aload_n 0, 1, 0, 0, 0) := by decide +kernel
theorem op41_17 : rn_op 41 17 = some (.aload_n 1, 1, 0, 0, 0) := by decide +kernel
theorem op41_18 : rn_op 41 18 = some (.getfield 29, 3, 7, 5, 0) := by decide +kernel
theorem op41_21 : rn_op 41 21 = some (.putfield 29, 3, 7, 5, 0) := by decide +kernel
theorem op41_24 : rn_op 41 24 = some (.aload_n 0, 1, 0, 0, 0) := by decide +kernel
theorem op41_25 : rn_op 41 25 = some (.aload_n 1, 1, 0, 0, 0) := by decide +kernel
theorem op41_26 : rn_op 41 26 = some (.getfield 32, 3, 7, 6, 0) := by decide +kernel
theorem op41_29 : rn_op 41 29 = some (.putfield 32, 3, 7, 6, 0) := by decide +kernel
theorem op41_32 : rn_op 41 32 = some (.aload_n 1, 1, 0, 0, 0) := by decide +kernel
theorem op41_33 : rn_op 41 33 = some (.getfield 9, 3, 7, 1, 3) := by decide +kernel
theorem op41_36 : rn_op 41 36 = some (.iconst 0, 1, 0, 0, 0) := by decide +kernel
theorem op41_37 : rn_op 41 37 = some (.aload_n 0, 1, 0, 0, 0) := by decide +kernel
theorem op41_38 : rn_op 41 38 = some (.getfield 9, 3, 7, 1, 3) := by decide +kernel
theorem op41_41 : rn_op 41 41 = some (.iconst 0, 1, 0, 0, 0) := by decide +kernel
theorem op41_42 : rn_op 41 42 = some (.iconst 4, 1, 0, 0, 0) := by decide +kernel
theorem op41_43 : rn_op 41 43 = some (.invokestatic 48, 3, 998, 5, 0) := by decide +kernel
theorem op41_46 : rn_op 41 46 = some (.aload_n 1, 1, 0, 0, 0) := by decide +kernel
theorem op41_47 : rn_op 41 47 = some (.getfield 15, 3, 7, 2, 3) := by decide +kernel
theorem op41_50 : rn_op 41 50 = some (.iconst 0, 1, 0, 0, 0) := by decide +kernel
theorem op41_51 : rn_op 41 51 = some (.aload_n 0, 1, 0, 0, 0) := by decide +kernel
theorem op41_52 : rn_op 41 52 = some (.getfield 15, 3, 7, 2, 3) := by decide +kernel
theorem op41_55 : rn_op 41 55 = some (.iconst 0, 1, 0, 0, 0) := by decide +kernel
theorem op41_56 : rn_op 41 56 = some (.iconst 4, 1, 0, 0, 0) := by decide +kernel
theorem op41_57 : rn_op 41 57 = some (.invokestatic 48, 3, 998, 5, 0) := by decide +kernel
theorem op41_60 : rn_op 41 60 = some (.aload_n 1, 1, 0, 0, 0) := by decide +kernel
theorem op41_61 : rn_op 41 61 = some (.getfield 18, 3, 7, 3, 3) := by decide +kernel
theorem op41_64 : rn_op 41 64 = some (.iconst 0, 1, 0, 0, 0) := by decide +kernel
theorem op41_65 : rn_op 41 65 = some (.aload_n 0, 1, 0, 0, 0) := by decide +kernel
theorem op41_66 : rn_op 41 66 = some (.getfield 18, 3, 7, 3, 3) := by decide +kernel
theorem op41_69 : rn_op 41 69 = some (.iconst 0, 1, 0, 0, 0) := by decide +kernel
theorem op41_70 : rn_op 41 70 = some (.bipush 48, 2, 0, 0, 0) := by decide +kernel
theorem op41_72 : rn_op 41 72 = some (.invokestatic 48, 3, 998, 5, 0) := by decide +kernel
theorem op41_75 : rn_op 41 75 = some (.return_, 1, 0, 0, 0) := by decide +kernel
def ta_copy (n : Nat) (q0 : Nat) (q1 : Nat) (m : rn_Mem) : Option (rn_Mem) :=
  if (m.1 q1 0) = 0 ∨ (m.1 q1 0) = 1 then
    (some (rm_i m q0 0 (m.1 q1 0))).bind fun (m1 : rn_Mem) =>
    (some (rm_i m1 q0 4 (m1.1 q1 4))).bind fun (m3 : rn_Mem) =>
    (some (rm_i m3 q0 5 (m3.1 q1 5))).bind fun (m4 : rn_Mem) =>
    (some (rm_i m4 q0 6 (m4.1 q1 6))).bind fun (m5 : rn_Mem) =>
    (some (rm_c m5 (q1 + 1) (q0 + 1) (0 : Int32).toNatClampNeg (0 : Int32).toNatClampNeg (4 : Int32).toNatClampNeg)).bind fun (m6 : rn_Mem) =>
    (some (rm_c m6 (q1 + 2) (q0 + 2) (0 : Int32).toNatClampNeg (0 : Int32).toNatClampNeg (4 : Int32).toNatClampNeg)).bind fun (m8 : rn_Mem) =>
    (some (rm_c m8 (q1 + 3) (q0 + 3) (0 : Int32).toNatClampNeg (0 : Int32).toNatClampNeg (48 : Int32).toNatClampNeg)).bind fun (m10 : rn_Mem) =>
    some m10
  else none
set_option maxHeartbeats 4000000 in
set_option maxRecDepth 20000 in
theorem ta_copy_ok (xs : List Int32) {d : Nat} (hd : 0 ≤ d) {n : Nat} {q0 : Nat} {q1 : Nat} {m mO : rn_Mem} (hq0 : sA_Table q0) (hq1 : sA_Table q1) (h : ta_copy n q0 q1 m = some mO) : rn_R xs d 41 0 (rn_ent 2 [.ref q0, .ref q1]) [] (rn_SH, m) none (rn_SH, mO) := by
  unfold ta_copy at h
  show rn_R xs d 41 0 [some (.ref q0), some (.ref q1)] [] (rn_SH, m) none (rn_SH, mO)
  refine rx_p (L2 := [some (.ref q0), some (.ref q1)]) (S2 := [.ref q0]) (pc2 := 1) op41_0 rfl rfl ?_
  refine rx_p (L2 := [some (.ref q0), some (.ref q1)]) (S2 := [.ref q1, .ref q0]) (pc2 := 2) op41_1 rfl rfl ?_
  refine rx_gf (v := .int (m.1 q1 0)) (pc2 := 5) op41_2 (hq1.1) rfl rfl rfl ?_
  obtain ⟨k2, h⟩ := rq_chk h
  obtain ⟨m1, em1, h⟩ := rq_bv h
  refine rx_pz (m2 := m1) (pc2 := 8) op41_5 (hq0.1) rfl k2 em1 rfl ?_
  refine rx_p (L2 := [some (.ref q0), some (.ref q1)]) (S2 := [.ref q0]) (pc2 := 9) op41_8 rfl rfl ?_
  refine rx_p (L2 := [some (.ref q0), some (.ref q1)]) (S2 := [.ref q1, .ref q0]) (pc2 := 10) op41_9 rfl rfl ?_
  refine rx_gf (v := .int (m1.1 q1 4)) (pc2 := 13) op41_10 (hq1.1) rfl rfl rfl ?_
  obtain ⟨m3, em3, h⟩ := rq_bv h
  refine rx_pf (m2 := m3) (pc2 := 16) op41_13 (hq0.1) rfl em3 rfl ?_
  refine rx_p (L2 := [some (.ref q0), some (.ref q1)]) (S2 := [.ref q0]) (pc2 := 17) op41_16 rfl rfl ?_
  refine rx_p (L2 := [some (.ref q0), some (.ref q1)]) (S2 := [.ref q1, .ref q0]) (pc2 := 18) op41_17 rfl rfl ?_
  refine rx_gf (v := .int (m3.1 q1 5)) (pc2 := 21) op41_18 (hq1.1) rfl rfl rfl ?_
  obtain ⟨m4, em4, h⟩ := rq_bv h
  refine rx_pf (m2 := m4) (pc2 := 24) op41_21 (hq0.1) rfl em4 rfl ?_
  refine rx_p (L2 := [some (.ref q0), some (.ref q1)]) (S2 := [.ref q0]) (pc2 := 25) op41_24 rfl rfl ?_
  refine rx_p (L2 := [some (.ref q0), some (.ref q1)]) (S2 := [.ref q1, .ref q0]) (pc2 := 26) op41_25 rfl rfl ?_
  refine rx_gf (v := .int (m4.1 q1 6)) (pc2 := 29) op41_26 (hq1.1) rfl rfl rfl ?_
  obtain ⟨m5, em5, h⟩ := rq_bv h
  refine rx_pf (m2 := m5) (pc2 := 32) op41_29 (hq0.1) rfl em5 rfl ?_
  refine rx_p (L2 := [some (.ref q0), some (.ref q1)]) (S2 := [.ref q1]) (pc2 := 33) op41_32 rfl rfl ?_
  refine rx_gf (v := .ref (q1 + 1)) (pc2 := 36) op41_33 (hq1.1) rfl rfl rfl ?_
  refine rx_ic (v := 0) (pc2 := 37) op41_36 (by decide) rfl ?_
  refine rx_p (L2 := [some (.ref q0), some (.ref q1)]) (S2 := [.ref q0, .int 0, .ref (q1 + 1)]) (pc2 := 38) op41_37 rfl rfl ?_
  refine rx_gf (v := .ref (q0 + 1)) (pc2 := 41) op41_38 (hq0.1) rfl rfl rfl ?_
  refine rx_ic (v := 0) (pc2 := 42) op41_41 (by decide) rfl ?_
  refine rx_ic (v := 4) (pc2 := 43) op41_42 (by decide) rfl ?_
  obtain ⟨m6, em6, h⟩ := rq_bv h
  refine rx_cp (m2 := m6) (pc2 := 46) op41_43 (hq1.2.1) (hq0.2.1) (by decide) (Nat.le_of_ble_eq_true rfl) em6 rfl ?_
  refine rx_p (L2 := [some (.ref q0), some (.ref q1)]) (S2 := [.ref q1]) (pc2 := 47) op41_46 rfl rfl ?_
  refine rx_gf (v := .ref (q1 + 2)) (pc2 := 50) op41_47 (hq1.1) rfl rfl rfl ?_
  refine rx_ic (v := 0) (pc2 := 51) op41_50 (by decide) rfl ?_
  refine rx_p (L2 := [some (.ref q0), some (.ref q1)]) (S2 := [.ref q0, .int 0, .ref (q1 + 2)]) (pc2 := 52) op41_51 rfl rfl ?_
  refine rx_gf (v := .ref (q0 + 2)) (pc2 := 55) op41_52 (hq0.1) rfl rfl rfl ?_
  refine rx_ic (v := 0) (pc2 := 56) op41_55 (by decide) rfl ?_
  refine rx_ic (v := 4) (pc2 := 57) op41_56 (by decide) rfl ?_
  obtain ⟨m8, em8, h⟩ := rq_bv h
  refine rx_cp (m2 := m8) (pc2 := 60) op41_57 (hq1.2.2.1) (hq0.2.2.1) (by decide) (Nat.le_of_ble_eq_true rfl) em8 rfl ?_
  refine rx_p (L2 := [some (.ref q0), some (.ref q1)]) (S2 := [.ref q1]) (pc2 := 61) op41_60 rfl rfl ?_
  refine rx_gf (v := .ref (q1 + 3)) (pc2 := 64) op41_61 (hq1.1) rfl rfl rfl ?_
  refine rx_ic (v := 0) (pc2 := 65) op41_64 (by decide) rfl ?_
  refine rx_p (L2 := [some (.ref q0), some (.ref q1)]) (S2 := [.ref q0, .int 0, .ref (q1 + 3)]) (pc2 := 66) op41_65 rfl rfl ?_
  refine rx_gf (v := .ref (q0 + 3)) (pc2 := 69) op41_66 (hq0.1) rfl rfl rfl ?_
  refine rx_ic (v := 0) (pc2 := 70) op41_69 (by decide) rfl ?_
  refine rx_bp (v := 48) (pc2 := 72) op41_70 (by decide) rfl ?_
  obtain ⟨m10, em10, h⟩ := rq_bv h
  refine rx_cp (m2 := m10) (pc2 := 75) op41_72 (hq1.2.2.2) (hq0.2.2.2) (by decide) (Nat.le_of_ble_eq_true rfl) em10 rfl ?_
  obtain rfl := Option.some.inj h
  exact ry_rv op41_75 ms_41 rfl
/-! lt_table -/
theorem op34_0 : rn_op 34 0 = some (.aload_n 0, 1, 0, 0, 0) := by decide +kernel
theorem op34_1 : rn_op 34 1 = some (.getfield 19, 3, 10, 1, 3) := by decide +kernel
theorem op34_4 : rn_op 34 4 = some (.getfield 62, 3, 6, 0, 3) := by decide +kernel
theorem op34_7 : rn_op 34 7 = some (.getfield 89, 3, 1, 0, 2) := by decide +kernel
theorem op34_10 : rn_op 34 10 = some (.ifCond .ne 13, 3, 0, 0, 0) := by decide +kernel
theorem op34_13 : rn_op 34 13 = some (.aload_n 0, 1, 0, 0, 0) := by decide +kernel
theorem op34_14 : rn_op 34 14 = some (.getfield 12, 3, 10, 0, 3) := by decide +kernel
theorem op34_17 : rn_op 34 17 = some (.invokevirtual 74, 3, 31, 1, 8) := by decide +kernel
theorem op34_20 : rn_op 34 20 = some (.bipush (-2), 2, 0, 0, 0) := by decide +kernel
theorem op34_22 : rn_op 34 22 = some (.ireturn, 1, 0, 0, 0) := by decide +kernel
theorem op34_23 : rn_op 34 23 = some (.aload_n 0, 1, 0, 0, 0) := by decide +kernel
theorem op34_24 : rn_op 34 24 = some (.getfield 12, 3, 10, 0, 3) := by decide +kernel
theorem op34_27 : rn_op 34 27 = some (.aload_n 0, 1, 0, 0, 0) := by decide +kernel
theorem op34_28 : rn_op 34 28 = some (.getfield 26, 3, 10, 3, 3) := by decide +kernel
theorem op34_31 : rn_op 34 31 = some (.getfield 93, 3, 6, 1, 3) := by decide +kernel
theorem op34_34 : rn_op 34 34 = some (.aload_n 0, 1, 0, 0, 0) := by decide +kernel
theorem op34_35 : rn_op 34 35 = some (.getfield 19, 3, 10, 1, 3) := by decide +kernel
theorem op34_38 : rn_op 34 38 = some (.getfield 62, 3, 6, 0, 3) := by decide +kernel
theorem op34_41 : rn_op 34 41 = some (.invokevirtual 97, 3, 35, 3, 8) := by decide +kernel
theorem op34_44 : rn_op 34 44 = some (.istore_n 1, 1, 0, 0, 0) := by decide +kernel
theorem op34_45 : rn_op 34 45 = some (.aload_n 0, 1, 0, 0, 0) := by decide +kernel
theorem op34_46 : rn_op 34 46 = some (.getfield 12, 3, 10, 0, 3) := by decide +kernel
theorem op34_49 : rn_op 34 49 = some (.invokevirtual 70, 3, 30, 1, 8) := by decide +kernel
theorem op34_52 : rn_op 34 52 = some (.istore_n 2, 1, 0, 0, 0) := by decide +kernel
theorem op34_53 : rn_op 34 53 = some (.aload_n 0, 1, 0, 0, 0) := by decide +kernel
theorem op34_54 : rn_op 34 54 = some (.getfield 12, 3, 10, 0, 3) := by decide +kernel
theorem op34_57 : rn_op 34 57 = some (.invokevirtual 74, 3, 31, 1, 8) := by decide +kernel
theorem op34_60 : rn_op 34 60 = some (.iload_n 1, 1, 0, 0, 0) := by decide +kernel
theorem op34_61 : rn_op 34 61 = some (.ifCond .ne 5, 3, 0, 0, 0) := by decide +kernel
theorem op34_64 : rn_op 34 64 = some (.iload_n 2, 1, 0, 0, 0) := by decide +kernel
theorem op34_65 : rn_op 34 65 = some (.ireturn, 1, 0, 0, 0) := by decide +kernel
theorem op34_66 : rn_op 34 66 = some (.aload_n 0, 1, 0, 0, 0) := by decide +kernel
theorem op34_67 : rn_op 34 67 = some (.getfield 19, 3, 10, 1, 3) := by decide +kernel
theorem op34_70 : rn_op 34 70 = some (.getfield 93, 3, 6, 1, 3) := by decide +kernel
theorem op34_73 : rn_op 34 73 = some (.aload_n 0, 1, 0, 0, 0) := by decide +kernel
theorem op34_74 : rn_op 34 74 = some (.getfield 26, 3, 10, 3, 3) := by decide +kernel
theorem op34_77 : rn_op 34 77 = some (.getfield 93, 3, 6, 1, 3) := by decide +kernel
theorem op34_80 : rn_op 34 80 = some (.invokevirtual 101, 3, 41, 2, 7) := by decide +kernel
theorem op34_83 : rn_op 34 83 = some (.aload_n 0, 1, 0, 0, 0) := by decide +kernel
theorem op34_84 : rn_op 34 84 = some (.iconst 0, 1, 0, 0, 0) := by decide +kernel
theorem op34_85 : rn_op 34 85 = some (.putfield 81, 3, 10, 8, 0) := by decide +kernel
theorem op34_88 : rn_op 34 88 = some (.aload_n 0, 1, 0, 0, 0) := by decide +kernel
theorem op34_89 : rn_op 34 89 = some (.getfield 19, 3, 10, 1, 3) := by decide +kernel
theorem op34_92 : rn_op 34 92 = some (.getfield 93, 3, 6, 1, 3) := by decide +kernel
theorem op34_95 : rn_op 34 95 = some (.getfield 107, 3, 7, 6, 0) := by decide +kernel
theorem op34_98 : rn_op 34 98 = some (.ireturn, 1, 0, 0, 0) := by decide +kernel
def lt_table (n : Nat)  (m : rn_Mem) : Option (Int32 × rn_Mem) :=
  if (m.1 4 0) = 0 then
    (tp_clear n m).bind fun m2 =>
    some ((-2), m2)
  else
    (tp_readTable n 37 4 m).bind fun (r5, m4) =>
    (tp_fault n m4).bind fun (r8, m7) =>
    (tp_clear n m7).bind fun m10 =>
    if r5 = 0 then
      some (r8, m10)
    else
      (ta_copy n 5 37 m10).bind fun m13 =>
      (some (rm_i m13 0 8 0)).bind fun (m15 : rn_Mem) =>
      some (m15.1 5 6, m15)
set_option maxHeartbeats 4000000 in
set_option maxRecDepth 20000 in
theorem lt_table_ok (xs : List Int32) {d : Nat} (hd : 5 ≤ d) {n : Nat} {m mO : rn_Mem} {rO : Int32} (h : lt_table n  m = some (rO, mO)) : rn_R xs d 34 0 (rn_ent 3 [.ref 0]) [] (rn_SH, m) (some (.int rO)) (rn_SH, mO) := by
  obtain ⟨d, rfl⟩ : ∃ e, d = e + 1 := ⟨d - 1, by omega⟩
  unfold lt_table at h
  show rn_R xs (d + 1) 34 0 [some (.ref 0), none, none] [] (rn_SH, m) (some (.int rO)) (rn_SH, mO)
  refine rx_p (L2 := [some (.ref 0), none, none]) (S2 := [.ref 0]) (pc2 := 1) op34_0 rfl rfl ?_
  refine rx_gf (v := .ref 3) (pc2 := 4) op34_1 sp_0 rfl rfl rfl ?_
  refine rx_gf (v := .ref 4) (pc2 := 7) op34_4 sp_3 rfl rfl rfl ?_
  refine rx_gf (v := .int (m.1 4 0)) (pc2 := 10) op34_7 sp_4 rfl rfl rfl ?_
  refine ry_if_ne (tgt := 23) (pc2 := 13) op34_10 (by decide) (by decide) rfl (fun b1 => ?_) (fun b1 => ?_)
  · have h := (if_pos b1).symm.trans h
    refine rx_p (L2 := [some (.ref 0), none, none]) (S2 := [.ref 0]) (pc2 := 14) op34_13 rfl rfl ?_
    refine rx_gf (v := .ref 1) (pc2 := 17) op34_14 sp_0 rfl rfl rfl ?_
    obtain ⟨m2, f3, h⟩ := rq_bind h
    try dsimp only at h
    refine ry_iv (p := 1) (vs := []) (T := []) (pc2 := 20) op34_17 ms_31 (by decide) rfl rfl (Nat.le_of_ble_eq_true rfl) (Nat.le_of_ble_eq_true rfl) sp_1 (tp_clear_ok xs (by omega)  f3) rfl ?_
    show rn_R _ _ _ _ _ [] _ _ _
    refine rx_bp (v := (-2)) (pc2 := 22) op34_20 (by decide) rfl ?_
    obtain ⟨rfl, rfl⟩ := rq_ret h
    exact ry_ri op34_22 ms_34 rfl
  · have h := (if_neg b1).symm.trans h
    refine rx_p (L2 := [some (.ref 0), none, none]) (S2 := [.ref 0]) (pc2 := 24) op34_23 rfl rfl ?_
    refine rx_gf (v := .ref 1) (pc2 := 27) op34_24 sp_0 rfl rfl rfl ?_
    refine rx_p (L2 := [some (.ref 0), none, none]) (S2 := [.ref 0, .ref 1]) (pc2 := 28) op34_27 rfl rfl ?_
    refine rx_gf (v := .ref 35) (pc2 := 31) op34_28 sp_0 rfl rfl rfl ?_
    refine rx_gf (v := .ref 37) (pc2 := 34) op34_31 sp_35 rfl rfl rfl ?_
    refine rx_p (L2 := [some (.ref 0), none, none]) (S2 := [.ref 0, .ref 37, .ref 1]) (pc2 := 35) op34_34 rfl rfl ?_
    refine rx_gf (v := .ref 3) (pc2 := 38) op34_35 sp_0 rfl rfl rfl ?_
    refine rx_gf (v := .ref 4) (pc2 := 41) op34_38 sp_3 rfl rfl rfl ?_
    obtain ⟨⟨r5, m4⟩, f6, h⟩ := rq_bind h
    try dsimp only at h
    refine ry_iv (p := 1) (vs := [.ref 37, .ref 4]) (T := []) (pc2 := 44) op34_41 ms_35 (by decide) rfl rfl (Nat.le_of_ble_eq_true rfl) (Nat.le_of_ble_eq_true rfl) sp_1 (tp_readTable_ok xs (by omega) sa_37 sa_4 f6) rfl ?_
    show rn_R _ _ _ _ _ [.int r5] _ _ _
    refine rx_s (L2 := [some (.ref 0), some (.int r5), none]) (pc2 := 45) op34_44 rfl rfl rfl ?_
    refine rx_p (L2 := [some (.ref 0), some (.int r5), none]) (S2 := [.ref 0]) (pc2 := 46) op34_45 rfl rfl ?_
    refine rx_gf (v := .ref 1) (pc2 := 49) op34_46 sp_0 rfl rfl rfl ?_
    obtain ⟨⟨r8, m7⟩, f9, h⟩ := rq_bind h
    try dsimp only at h
    refine ry_iv (p := 1) (vs := []) (T := []) (pc2 := 52) op34_49 ms_30 (by decide) rfl rfl (Nat.le_of_ble_eq_true rfl) (Nat.le_of_ble_eq_true rfl) sp_1 (tp_fault_ok xs (by omega)  f9) rfl ?_
    show rn_R _ _ _ _ _ [.int r8] _ _ _
    refine rx_s (L2 := [some (.ref 0), some (.int r5), some (.int r8)]) (pc2 := 53) op34_52 rfl rfl rfl ?_
    refine rx_p (L2 := [some (.ref 0), some (.int r5), some (.int r8)]) (S2 := [.ref 0]) (pc2 := 54) op34_53 rfl rfl ?_
    refine rx_gf (v := .ref 1) (pc2 := 57) op34_54 sp_0 rfl rfl rfl ?_
    obtain ⟨m10, f11, h⟩ := rq_bind h
    try dsimp only at h
    refine ry_iv (p := 1) (vs := []) (T := []) (pc2 := 60) op34_57 ms_31 (by decide) rfl rfl (Nat.le_of_ble_eq_true rfl) (Nat.le_of_ble_eq_true rfl) sp_1 (tp_clear_ok xs (by omega)  f11) rfl ?_
    show rn_R _ _ _ _ _ [] _ _ _
    refine rx_p (L2 := [some (.ref 0), some (.int r5), some (.int r8)]) (S2 := [.int r5]) (pc2 := 61) op34_60 rfl rfl ?_
    refine ry_if_ne (tgt := 66) (pc2 := 64) op34_61 (by decide) (by decide) rfl (fun b12 => ?_) (fun b12 => ?_)
    · have h := (if_pos b12).symm.trans h
      refine rx_p (L2 := [some (.ref 0), some (.int r5), some (.int r8)]) (S2 := [.int r8]) (pc2 := 65) op34_64 rfl rfl ?_
      obtain ⟨rfl, rfl⟩ := rq_ret h
      exact ry_ri op34_65 ms_34 rfl
    · have h := (if_neg b12).symm.trans h
      refine rx_p (L2 := [some (.ref 0), some (.int r5), some (.int r8)]) (S2 := [.ref 0]) (pc2 := 67) op34_66 rfl rfl ?_
      refine rx_gf (v := .ref 3) (pc2 := 70) op34_67 sp_0 rfl rfl rfl ?_
      refine rx_gf (v := .ref 5) (pc2 := 73) op34_70 sp_3 rfl rfl rfl ?_
      refine rx_p (L2 := [some (.ref 0), some (.int r5), some (.int r8)]) (S2 := [.ref 0, .ref 5]) (pc2 := 74) op34_73 rfl rfl ?_
      refine rx_gf (v := .ref 35) (pc2 := 77) op34_74 sp_0 rfl rfl rfl ?_
      refine rx_gf (v := .ref 37) (pc2 := 80) op34_77 sp_35 rfl rfl rfl ?_
      obtain ⟨m13, f14, h⟩ := rq_bind h
      try dsimp only at h
      refine ry_iv (p := 5) (vs := [.ref 37]) (T := []) (pc2 := 83) op34_80 ms_41 (by decide) rfl rfl (Nat.le_of_ble_eq_true rfl) (Nat.le_of_ble_eq_true rfl) sp_5 (ta_copy_ok xs (by omega) sa_5 sa_37 f14) rfl ?_
      show rn_R _ _ _ _ _ [] _ _ _
      refine rx_p (L2 := [some (.ref 0), some (.int r5), some (.int r8)]) (S2 := [.ref 0]) (pc2 := 84) op34_83 rfl rfl ?_
      refine rx_ic (v := 0) (pc2 := 85) op34_84 (by decide) rfl ?_
      obtain ⟨m15, em15, h⟩ := rq_bv h
      refine rx_pf (m2 := m15) (pc2 := 88) op34_85 sp_0 rfl em15 rfl ?_
      refine rx_p (L2 := [some (.ref 0), some (.int r5), some (.int r8)]) (S2 := [.ref 0]) (pc2 := 89) op34_88 rfl rfl ?_
      refine rx_gf (v := .ref 3) (pc2 := 92) op34_89 sp_0 rfl rfl rfl ?_
      refine rx_gf (v := .ref 5) (pc2 := 95) op34_92 sp_3 rfl rfl rfl ?_
      refine rx_gf (v := .int (m15.1 5 6)) (pc2 := 98) op34_95 sp_5 rfl rfl rfl ?_
      obtain ⟨rfl, rfl⟩ := rq_ret h
      exact ry_ri op34_98 ms_34 rfl
/-! ga_law -/
theorem op43_0 : rn_op 43 0 = some (.iload_n 1, 1, 0, 0, 0) := by decide +kernel
theorem op43_1 : rn_op 43 1 = some (.tableswitch 78 0 6 #[43, 48, 53, 58, 63, 68, 73], 43, 0, 0, 0) := by decide +kernel
theorem op43_44 : rn_op 43 44 = some (.aload_n 0, 1, 0, 0, 0) := by decide +kernel
theorem op43_45 : rn_op 43 45 = some (.getfield 9, 3, 1, 1, 0) := by decide +kernel
theorem op43_48 : rn_op 43 48 = some (.ireturn, 1, 0, 0, 0) := by decide +kernel
theorem op43_49 : rn_op 43 49 = some (.aload_n 0, 1, 0, 0, 0) := by decide +kernel
theorem op43_50 : rn_op 43 50 = some (.getfield 15, 3, 1, 2, 0) := by decide +kernel
theorem op43_53 : rn_op 43 53 = some (.ireturn, 1, 0, 0, 0) := by decide +kernel
theorem op43_54 : rn_op 43 54 = some (.aload_n 0, 1, 0, 0, 0) := by decide +kernel
theorem op43_55 : rn_op 43 55 = some (.getfield 24, 3, 1, 3, 0) := by decide +kernel
theorem op43_58 : rn_op 43 58 = some (.ireturn, 1, 0, 0, 0) := by decide +kernel
theorem op43_59 : rn_op 43 59 = some (.aload_n 0, 1, 0, 0, 0) := by decide +kernel
theorem op43_60 : rn_op 43 60 = some (.getfield 18, 3, 1, 4, 0) := by decide +kernel
theorem op43_63 : rn_op 43 63 = some (.ireturn, 1, 0, 0, 0) := by decide +kernel
theorem op43_64 : rn_op 43 64 = some (.aload_n 0, 1, 0, 0, 0) := by decide +kernel
theorem op43_65 : rn_op 43 65 = some (.getfield 27, 3, 1, 5, 0) := by decide +kernel
theorem op43_68 : rn_op 43 68 = some (.ireturn, 1, 0, 0, 0) := by decide +kernel
theorem op43_69 : rn_op 43 69 = some (.aload_n 0, 1, 0, 0, 0) := by decide +kernel
theorem op43_70 : rn_op 43 70 = some (.getfield 30, 3, 1, 6, 0) := by decide +kernel
theorem op43_73 : rn_op 43 73 = some (.ireturn, 1, 0, 0, 0) := by decide +kernel
theorem op43_74 : rn_op 43 74 = some (.aload_n 0, 1, 0, 0, 0) := by decide +kernel
theorem op43_75 : rn_op 43 75 = some (.getfield 33, 3, 1, 7, 0) := by decide +kernel
theorem op43_78 : rn_op 43 78 = some (.ireturn, 1, 0, 0, 0) := by decide +kernel
theorem op43_79 : rn_op 43 79 = some (.aload_n 0, 1, 0, 0, 0) := by decide +kernel
theorem op43_80 : rn_op 43 80 = some (.getfield 21, 3, 1, 8, 0) := by decide +kernel
theorem op43_83 : rn_op 43 83 = some (.ireturn, 1, 0, 0, 0) := by decide +kernel
def ga_law (n : Nat) (q0 : Nat) (a1 : Int32) (m : rn_Mem) : Option (Int32 × rn_Mem) :=
  if a1 = 0 then
    some (m.1 q0 1, m)
  else if a1 = 1 then
    some (m.1 q0 2, m)
  else if a1 = 2 then
    some (m.1 q0 3, m)
  else if a1 = 3 then
    some (m.1 q0 4, m)
  else if a1 = 4 then
    some (m.1 q0 5, m)
  else if a1 = 5 then
    some (m.1 q0 6, m)
  else if a1 = 6 then
    some (m.1 q0 7, m)
  else 
    some (m.1 q0 8, m)
set_option maxHeartbeats 4000000 in
set_option maxRecDepth 20000 in
theorem ga_law_ok (xs : List Int32) {d : Nat} (hd : 0 ≤ d) {n : Nat} {q0 : Nat} {a1 : Int32} {m mO : rn_Mem} {rO : Int32} (hq0 : sA_Game q0) (h : ga_law n q0 a1 m = some (rO, mO)) : rn_R xs d 43 0 (rn_ent 2 [.ref q0, .int a1]) [] (rn_SH, m) (some (.int rO)) (rn_SH, mO) := by
  unfold ga_law at h
  show rn_R xs d 43 0 [some (.ref q0), some (.int a1)] [] (rn_SH, m) (some (.int rO)) (rn_SH, mO)
  refine rx_p (L2 := [some (.ref q0), some (.int a1)]) (S2 := [.int a1]) (pc2 := 1) op43_0 rfl rfl ?_
  by_cases b1 : a1 = 0
  · have h := (if_pos b1).symm.trans h
    refine ry_ti (w := 0) (off := 43) (tgt := 44) op43_1 (by rw [b1] <;> decide) (by decide) (by decide) (by decide) (by decide) ?_
    refine rx_p (L2 := [some (.ref q0), some (.int a1)]) (S2 := [.ref q0]) (pc2 := 45) op43_44 rfl rfl ?_
    refine rx_gf (v := .int (m.1 q0 1)) (pc2 := 48) op43_45 hq0 rfl rfl rfl ?_
    obtain ⟨rfl, rfl⟩ := rq_ret h
    exact ry_ri op43_48 ms_43 rfl
  have h := (if_neg b1).symm.trans h
  by_cases b2 : a1 = 1
  · have h := (if_pos b2).symm.trans h
    refine ry_ti (w := 1) (off := 48) (tgt := 49) op43_1 (by rw [b2] <;> decide) (by decide) (by decide) (by decide) (by decide) ?_
    refine rx_p (L2 := [some (.ref q0), some (.int a1)]) (S2 := [.ref q0]) (pc2 := 50) op43_49 rfl rfl ?_
    refine rx_gf (v := .int (m.1 q0 2)) (pc2 := 53) op43_50 hq0 rfl rfl rfl ?_
    obtain ⟨rfl, rfl⟩ := rq_ret h
    exact ry_ri op43_53 ms_43 rfl
  have h := (if_neg b2).symm.trans h
  by_cases b3 : a1 = 2
  · have h := (if_pos b3).symm.trans h
    refine ry_ti (w := 2) (off := 53) (tgt := 54) op43_1 (by rw [b3] <;> decide) (by decide) (by decide) (by decide) (by decide) ?_
    refine rx_p (L2 := [some (.ref q0), some (.int a1)]) (S2 := [.ref q0]) (pc2 := 55) op43_54 rfl rfl ?_
    refine rx_gf (v := .int (m.1 q0 3)) (pc2 := 58) op43_55 hq0 rfl rfl rfl ?_
    obtain ⟨rfl, rfl⟩ := rq_ret h
    exact ry_ri op43_58 ms_43 rfl
  have h := (if_neg b3).symm.trans h
  by_cases b4 : a1 = 3
  · have h := (if_pos b4).symm.trans h
    refine ry_ti (w := 3) (off := 58) (tgt := 59) op43_1 (by rw [b4] <;> decide) (by decide) (by decide) (by decide) (by decide) ?_
    refine rx_p (L2 := [some (.ref q0), some (.int a1)]) (S2 := [.ref q0]) (pc2 := 60) op43_59 rfl rfl ?_
    refine rx_gf (v := .int (m.1 q0 4)) (pc2 := 63) op43_60 hq0 rfl rfl rfl ?_
    obtain ⟨rfl, rfl⟩ := rq_ret h
    exact ry_ri op43_63 ms_43 rfl
  have h := (if_neg b4).symm.trans h
  by_cases b5 : a1 = 4
  · have h := (if_pos b5).symm.trans h
    refine ry_ti (w := 4) (off := 63) (tgt := 64) op43_1 (by rw [b5] <;> decide) (by decide) (by decide) (by decide) (by decide) ?_
    refine rx_p (L2 := [some (.ref q0), some (.int a1)]) (S2 := [.ref q0]) (pc2 := 65) op43_64 rfl rfl ?_
    refine rx_gf (v := .int (m.1 q0 5)) (pc2 := 68) op43_65 hq0 rfl rfl rfl ?_
    obtain ⟨rfl, rfl⟩ := rq_ret h
    exact ry_ri op43_68 ms_43 rfl
  have h := (if_neg b5).symm.trans h
  by_cases b6 : a1 = 5
  · have h := (if_pos b6).symm.trans h
    refine ry_ti (w := 5) (off := 68) (tgt := 69) op43_1 (by rw [b6] <;> decide) (by decide) (by decide) (by decide) (by decide) ?_
    refine rx_p (L2 := [some (.ref q0), some (.int a1)]) (S2 := [.ref q0]) (pc2 := 70) op43_69 rfl rfl ?_
    refine rx_gf (v := .int (m.1 q0 6)) (pc2 := 73) op43_70 hq0 rfl rfl rfl ?_
    obtain ⟨rfl, rfl⟩ := rq_ret h
    exact ry_ri op43_73 ms_43 rfl
  have h := (if_neg b6).symm.trans h
  by_cases b7 : a1 = 6
  · have h := (if_pos b7).symm.trans h
    refine ry_ti (w := 6) (off := 73) (tgt := 74) op43_1 (by rw [b7] <;> decide) (by decide) (by decide) (by decide) (by decide) ?_
    refine rx_p (L2 := [some (.ref q0), some (.int a1)]) (S2 := [.ref q0]) (pc2 := 75) op43_74 rfl rfl ?_
    refine rx_gf (v := .int (m.1 q0 7)) (pc2 := 78) op43_75 hq0 rfl rfl rfl ?_
    obtain ⟨rfl, rfl⟩ := rq_ret h
    exact ry_ri op43_78 ms_43 rfl
  have h := (if_neg b7).symm.trans h
  have tb1 := rq_nt 0 (by decide) b1
  have tb2 := rq_nt 1 (by decide) b2
  have tb3 := rq_nt 2 (by decide) b3
  have tb4 := rq_nt 3 (by decide) b4
  have tb5 := rq_nt 4 (by decide) b5
  have tb6 := rq_nt 5 (by decide) b6
  have tb7 := rq_nt 6 (by decide) b7
  refine ry_to (tgt := 79) op43_1 (by omega) (by decide) (by decide) ?_
  refine rx_p (L2 := [some (.ref q0), some (.int a1)]) (S2 := [.ref q0]) (pc2 := 80) op43_79 rfl rfl ?_
  refine rx_gf (v := .int (m.1 q0 8)) (pc2 := 83) op43_80 hq0 rfl rfl rfl ?_
  obtain ⟨rfl, rfl⟩ := rq_ret h
  exact ry_ri op43_83 ms_43 rfl
/-! lt_told -/
theorem op42_0 : rn_op 42 0 = some (.iload_n 1, 1, 0, 0, 0) := by decide +kernel
theorem op42_1 : rn_op 42 1 = some (.ifCond .lt 9, 3, 0, 0, 0) := by decide +kernel
theorem op42_4 : rn_op 42 4 = some (.iload_n 1, 1, 0, 0, 0) := by decide +kernel
theorem op42_5 : rn_op 42 5 = some (.bipush 7, 2, 0, 0, 0) := by decide +kernel
theorem op42_7 : rn_op 42 7 = some (.if_icmp .le 5, 3, 0, 0, 0) := by decide +kernel
theorem op42_10 : rn_op 42 10 = some (.iconst (-1), 1, 0, 0, 0) := by decide +kernel
theorem op42_11 : rn_op 42 11 = some (.ireturn, 1, 0, 0, 0) := by decide +kernel
theorem op42_12 : rn_op 42 12 = some (.aload_n 0, 1, 0, 0, 0) := by decide +kernel
theorem op42_13 : rn_op 42 13 = some (.getfield 19, 3, 10, 1, 3) := by decide +kernel
theorem op42_16 : rn_op 42 16 = some (.getfield 62, 3, 6, 0, 3) := by decide +kernel
theorem op42_19 : rn_op 42 19 = some (.getfield 89, 3, 1, 0, 2) := by decide +kernel
theorem op42_22 : rn_op 42 22 = some (.ifCond .ne 6, 3, 0, 0, 0) := by decide +kernel
theorem op42_25 : rn_op 42 25 = some (.bipush (-2), 2, 0, 0, 0) := by decide +kernel
theorem op42_27 : rn_op 42 27 = some (.ireturn, 1, 0, 0, 0) := by decide +kernel
theorem op42_28 : rn_op 42 28 = some (.aload_n 0, 1, 0, 0, 0) := by decide +kernel
theorem op42_29 : rn_op 42 29 = some (.getfield 19, 3, 10, 1, 3) := by decide +kernel
theorem op42_32 : rn_op 42 32 = some (.getfield 62, 3, 6, 0, 3) := by decide +kernel
theorem op42_35 : rn_op 42 35 = some (.iload_n 1, 1, 0, 0, 0) := by decide +kernel
theorem op42_36 : rn_op 42 36 = some (.invokevirtual 110, 3, 43, 2, 1) := by decide +kernel
theorem op42_39 : rn_op 42 39 = some (.istore_n 2, 1, 0, 0, 0) := by decide +kernel
theorem op42_40 : rn_op 42 40 = some (.iload_n 2, 1, 0, 0, 0) := by decide +kernel
theorem op42_41 : rn_op 42 41 = some (.ifCond .ge 8, 3, 0, 0, 0) := by decide +kernel
theorem op42_44 : rn_op 42 44 = some (.bipush (-4), 2, 0, 0, 0) := by decide +kernel
theorem op42_46 : rn_op 42 46 = some (.goto 4, 3, 0, 0, 0) := by decide +kernel
theorem op42_49 : rn_op 42 49 = some (.iload_n 2, 1, 0, 0, 0) := by decide +kernel
theorem op42_50 : rn_op 42 50 = some (.ireturn, 1, 0, 0, 0) := by decide +kernel
def lt_told (n : Nat) (a1 : Int32) (m : rn_Mem) : Option (Int32 × rn_Mem) :=
  if a1 < 0 then
    some ((-1), m)
  else
    if 7 < a1 then
      some ((-1), m)
    else
      if (m.1 4 0) = 0 then
        some ((-2), m)
      else
        (ga_law n 4 a1 m).bind fun (r5, m4) =>
        if r5 < 0 then
          some ((-4), m4)
        else
          some (r5, m4)
set_option maxHeartbeats 4000000 in
set_option maxRecDepth 20000 in
theorem lt_told_ok (xs : List Int32) {d : Nat} (hd : 1 ≤ d) {n : Nat} {a1 : Int32} {m mO : rn_Mem} {rO : Int32} (h : lt_told n a1 m = some (rO, mO)) : rn_R xs d 42 0 (rn_ent 3 [.ref 0, .int a1]) [] (rn_SH, m) (some (.int rO)) (rn_SH, mO) := by
  obtain ⟨d, rfl⟩ : ∃ e, d = e + 1 := ⟨d - 1, by omega⟩
  unfold lt_told at h
  show rn_R xs (d + 1) 42 0 [some (.ref 0), some (.int a1), none] [] (rn_SH, m) (some (.int rO)) (rn_SH, mO)
  refine rx_p (L2 := [some (.ref 0), some (.int a1), none]) (S2 := [.int a1]) (pc2 := 1) op42_0 rfl rfl ?_
  refine ry_if_lt (tgt := 10) (pc2 := 4) op42_1 (by decide) (by decide) rfl (fun b1 => ?_) (fun b1 => ?_)
  · have h := (if_pos b1).symm.trans h
    refine rx_ic (v := (-1)) (pc2 := 11) op42_10 (by decide) rfl ?_
    obtain ⟨rfl, rfl⟩ := rq_ret h
    exact ry_ri op42_11 ms_42 rfl
  · have h := (if_neg b1).symm.trans h
    refine rx_p (L2 := [some (.ref 0), some (.int a1), none]) (S2 := [.int a1]) (pc2 := 5) op42_4 rfl rfl ?_
    refine rx_bp (v := 7) (pc2 := 7) op42_5 (by decide) rfl ?_
    refine ry_ic_le (tgt := 12) (pc2 := 10) op42_7 (by decide) (by decide) rfl (fun b2 => ?_) (fun b2 => ?_)
    · have h := (if_pos b2).symm.trans h
      refine rx_ic (v := (-1)) (pc2 := 11) op42_10 (by decide) rfl ?_
      obtain ⟨rfl, rfl⟩ := rq_ret h
      exact ry_ri op42_11 ms_42 rfl
    · have h := (if_neg b2).symm.trans h
      refine rx_p (L2 := [some (.ref 0), some (.int a1), none]) (S2 := [.ref 0]) (pc2 := 13) op42_12 rfl rfl ?_
      refine rx_gf (v := .ref 3) (pc2 := 16) op42_13 sp_0 rfl rfl rfl ?_
      refine rx_gf (v := .ref 4) (pc2 := 19) op42_16 sp_3 rfl rfl rfl ?_
      refine rx_gf (v := .int (m.1 4 0)) (pc2 := 22) op42_19 sp_4 rfl rfl rfl ?_
      refine ry_if_ne (tgt := 28) (pc2 := 25) op42_22 (by decide) (by decide) rfl (fun b3 => ?_) (fun b3 => ?_)
      · have h := (if_pos b3).symm.trans h
        refine rx_bp (v := (-2)) (pc2 := 27) op42_25 (by decide) rfl ?_
        obtain ⟨rfl, rfl⟩ := rq_ret h
        exact ry_ri op42_27 ms_42 rfl
      · have h := (if_neg b3).symm.trans h
        refine rx_p (L2 := [some (.ref 0), some (.int a1), none]) (S2 := [.ref 0]) (pc2 := 29) op42_28 rfl rfl ?_
        refine rx_gf (v := .ref 3) (pc2 := 32) op42_29 sp_0 rfl rfl rfl ?_
        refine rx_gf (v := .ref 4) (pc2 := 35) op42_32 sp_3 rfl rfl rfl ?_
        refine rx_p (L2 := [some (.ref 0), some (.int a1), none]) (S2 := [.int a1, .ref 4]) (pc2 := 36) op42_35 rfl rfl ?_
        obtain ⟨⟨r5, m4⟩, f6, h⟩ := rq_bind h
        try dsimp only at h
        refine ry_iv (p := 4) (vs := [.int a1]) (T := []) (pc2 := 39) op42_36 ms_43 (by decide) rfl rfl (Nat.le_of_ble_eq_true rfl) (Nat.le_of_ble_eq_true rfl) sp_4 (ga_law_ok xs (by omega) sa_4 f6) rfl ?_
        show rn_R _ _ _ _ _ [.int r5] _ _ _
        refine rx_s (L2 := [some (.ref 0), some (.int a1), some (.int r5)]) (pc2 := 40) op42_39 rfl rfl rfl ?_
        refine rx_p (L2 := [some (.ref 0), some (.int a1), some (.int r5)]) (S2 := [.int r5]) (pc2 := 41) op42_40 rfl rfl ?_
        refine ry_if_ge (tgt := 49) (pc2 := 44) op42_41 (by decide) (by decide) rfl (fun b7 => ?_) (fun b7 => ?_)
        · have h := (if_pos b7).symm.trans h
          refine rx_bp (v := (-4)) (pc2 := 46) op42_44 (by decide) rfl ?_
          refine ry_go (tgt := 50) op42_46 (by decide) (by decide) ?_
          obtain ⟨rfl, rfl⟩ := rq_ret h
          exact ry_ri op42_50 ms_42 rfl
        · have h := (if_neg b7).symm.trans h
          refine rx_p (L2 := [some (.ref 0), some (.int a1), some (.int r5)]) (S2 := [.int r5]) (pc2 := 50) op42_49 rfl rfl ?_
          obtain ⟨rfl, rfl⟩ := rq_ret h
          exact ry_ri op42_50 ms_42 rfl
