/-! lt_isNoSheet -/
theorem op109_0 : rn_op 109 0 = some (.iload_n 0, 1, 0, 0, 0) := by decide +kernel
theorem op109_1 : rn_op 109 1 = some (.ifCond .lt 8, 3, 0, 0, 0) := by decide +kernel
theorem op109_4 : rn_op 109 4 = some (.iload_n 0, 1, 0, 0, 0) := by decide +kernel
theorem op109_5 : rn_op 109 5 = some (.iconst 4, 1, 0, 0, 0) := by decide +kernel
theorem op109_6 : rn_op 109 6 = some (.if_icmp .lt 7, 3, 0, 0, 0) := by decide +kernel
theorem op109_9 : rn_op 109 9 = some (.iconst 1, 1, 0, 0, 0) := by decide +kernel
theorem op109_10 : rn_op 109 10 = some (.goto 4, 3, 0, 0, 0) := by decide +kernel
theorem op109_13 : rn_op 109 13 = some (.iconst 0, 1, 0, 0, 0) := by decide +kernel
theorem op109_14 : rn_op 109 14 = some (.ireturn, 1, 0, 0, 0) := by decide +kernel
def lt_isNoSheet (n : Nat) (a0 : Int32) (m : rn_Mem) : Option (Int32 × rn_Mem) :=
  if a0 < 0 then
    some (1, m)
  else
    if a0 < 4 then
      some (0, m)
    else
      some (1, m)
set_option maxHeartbeats 4000000 in
set_option maxRecDepth 20000 in
theorem lt_isNoSheet_ok (xs : List Int32) {d : Nat} (hd : 0 ≤ d) {n : Nat} {a0 : Int32} {m mO : rn_Mem} {rO : Int32} (h : lt_isNoSheet n a0 m = some (rO, mO)) : rn_R xs d 109 0 (rn_ent 1 [.int a0]) [] (rn_SH, m) (some (.int rO)) (rn_SH, mO) := by
  unfold lt_isNoSheet at h
  show rn_R xs d 109 0 [some (.int a0)] [] (rn_SH, m) (some (.int rO)) (rn_SH, mO)
  refine rx_p (L2 := [some (.int a0)]) (S2 := [.int a0]) (pc2 := 1) op109_0 rfl rfl ?_
  refine ry_if_lt (tgt := 9) (pc2 := 4) op109_1 (by decide) (by decide) rfl (fun b1 => ?_) (fun b1 => ?_)
  · have h := (if_pos b1).symm.trans h
    refine rx_ic (v := 1) (pc2 := 10) op109_9 (by decide) rfl ?_
    refine ry_go (tgt := 14) op109_10 (by decide) (by decide) ?_
    obtain ⟨rfl, rfl⟩ := rq_ret h
    exact ry_rz (x := 1) op109_14 ms_109 rfl (by decide)
  · have h := (if_neg b1).symm.trans h
    refine rx_p (L2 := [some (.int a0)]) (S2 := [.int a0]) (pc2 := 5) op109_4 rfl rfl ?_
    refine rx_ic (v := 4) (pc2 := 6) op109_5 (by decide) rfl ?_
    refine ry_ic_lt (tgt := 13) (pc2 := 9) op109_6 (by decide) (by decide) rfl (fun b2 => ?_) (fun b2 => ?_)
    · have h := (if_pos b2).symm.trans h
      refine rx_ic (v := 0) (pc2 := 14) op109_13 (by decide) rfl ?_
      obtain ⟨rfl, rfl⟩ := rq_ret h
      exact ry_rz (x := 0) op109_14 ms_109 rfl (by decide)
    · have h := (if_neg b2).symm.trans h
      refine rx_ic (v := 1) (pc2 := 10) op109_9 (by decide) rfl ?_
      refine ry_go (tgt := 14) op109_10 (by decide) (by decide) ?_
      obtain ⟨rfl, rfl⟩ := rq_ret h
      exact ry_rz (x := 1) op109_14 ms_109 rfl (by decide)
/-! lt_isNoLane -/
theorem op110_0 : rn_op 110 0 = some (.iload_n 0, 1, 0, 0, 0) := by decide +kernel
theorem op110_1 : rn_op 110 1 = some (.ifCond .lt 8, 3, 0, 0, 0) := by decide +kernel
theorem op110_4 : rn_op 110 4 = some (.iload_n 0, 1, 0, 0, 0) := by decide +kernel
theorem op110_5 : rn_op 110 5 = some (.iconst 3, 1, 0, 0, 0) := by decide +kernel
theorem op110_6 : rn_op 110 6 = some (.if_icmp .lt 7, 3, 0, 0, 0) := by decide +kernel
theorem op110_9 : rn_op 110 9 = some (.iconst 1, 1, 0, 0, 0) := by decide +kernel
theorem op110_10 : rn_op 110 10 = some (.goto 4, 3, 0, 0, 0) := by decide +kernel
theorem op110_13 : rn_op 110 13 = some (.iconst 0, 1, 0, 0, 0) := by decide +kernel
theorem op110_14 : rn_op 110 14 = some (.ireturn, 1, 0, 0, 0) := by decide +kernel
def lt_isNoLane (n : Nat) (a0 : Int32) (m : rn_Mem) : Option (Int32 × rn_Mem) :=
  if a0 < 0 then
    some (1, m)
  else
    if a0 < 3 then
      some (0, m)
    else
      some (1, m)
set_option maxHeartbeats 4000000 in
set_option maxRecDepth 20000 in
theorem lt_isNoLane_ok (xs : List Int32) {d : Nat} (hd : 0 ≤ d) {n : Nat} {a0 : Int32} {m mO : rn_Mem} {rO : Int32} (h : lt_isNoLane n a0 m = some (rO, mO)) : rn_R xs d 110 0 (rn_ent 1 [.int a0]) [] (rn_SH, m) (some (.int rO)) (rn_SH, mO) := by
  unfold lt_isNoLane at h
  show rn_R xs d 110 0 [some (.int a0)] [] (rn_SH, m) (some (.int rO)) (rn_SH, mO)
  refine rx_p (L2 := [some (.int a0)]) (S2 := [.int a0]) (pc2 := 1) op110_0 rfl rfl ?_
  refine ry_if_lt (tgt := 9) (pc2 := 4) op110_1 (by decide) (by decide) rfl (fun b1 => ?_) (fun b1 => ?_)
  · have h := (if_pos b1).symm.trans h
    refine rx_ic (v := 1) (pc2 := 10) op110_9 (by decide) rfl ?_
    refine ry_go (tgt := 14) op110_10 (by decide) (by decide) ?_
    obtain ⟨rfl, rfl⟩ := rq_ret h
    exact ry_rz (x := 1) op110_14 ms_110 rfl (by decide)
  · have h := (if_neg b1).symm.trans h
    refine rx_p (L2 := [some (.int a0)]) (S2 := [.int a0]) (pc2 := 5) op110_4 rfl rfl ?_
    refine rx_ic (v := 3) (pc2 := 6) op110_5 (by decide) rfl ?_
    refine ry_ic_lt (tgt := 13) (pc2 := 9) op110_6 (by decide) (by decide) rfl (fun b2 => ?_) (fun b2 => ?_)
    · have h := (if_pos b2).symm.trans h
      refine rx_ic (v := 0) (pc2 := 14) op110_13 (by decide) rfl ?_
      obtain ⟨rfl, rfl⟩ := rq_ret h
      exact ry_rz (x := 0) op110_14 ms_110 rfl (by decide)
    · have h := (if_neg b2).symm.trans h
      refine rx_ic (v := 1) (pc2 := 10) op110_9 (by decide) rfl ?_
      refine ry_go (tgt := 14) op110_10 (by decide) (by decide) ?_
      obtain ⟨rfl, rfl⟩ := rq_ret h
      exact ry_rz (x := 1) op110_14 ms_110 rfl (by decide)
/-! sh_refusal -/
theorem op111_0 : rn_op 111 0 = some (.aload_n 0, 1, 0, 0, 0) := by decide +kernel
theorem op111_1 : rn_op 111 1 = some (.getfield 15, 3, 5, 0, 2) := by decide +kernel
theorem op111_4 : rn_op 111 4 = some (.ifCond .ne 6, 3, 0, 0, 0) := by decide +kernel
theorem op111_7 : rn_op 111 7 = some (.bipush (-11), 2, 0, 0, 0) := by decide +kernel
theorem op111_9 : rn_op 111 9 = some (.ireturn, 1, 0, 0, 0) := by decide +kernel
theorem op111_10 : rn_op 111 10 = some (.aload_n 0, 1, 0, 0, 0) := by decide +kernel
theorem op111_11 : rn_op 111 11 = some (.getfield 19, 3, 5, 1, 0) := by decide +kernel
theorem op111_14 : rn_op 111 14 = some (.iload_n 1, 1, 0, 0, 0) := by decide +kernel
theorem op111_15 : rn_op 111 15 = some (.if_icmp .eq 6, 3, 0, 0, 0) := by decide +kernel
theorem op111_18 : rn_op 111 18 = some (.bipush (-12), 2, 0, 0, 0) := by decide +kernel
theorem op111_20 : rn_op 111 20 = some (.ireturn, 1, 0, 0, 0) := by decide +kernel
theorem op111_21 : rn_op 111 21 = some (.iload_n 2, 1, 0, 0, 0) := by decide +kernel
theorem op111_22 : rn_op 111 22 = some (.ifCond .lt 13, 3, 0, 0, 0) := by decide +kernel
theorem op111_25 : rn_op 111 25 = some (.iload_n 2, 1, 0, 0, 0) := by decide +kernel
theorem op111_26 : rn_op 111 26 = some (.aload_n 0, 1, 0, 0, 0) := by decide +kernel
theorem op111_27 : rn_op 111 27 = some (.getfield 23, 3, 5, 2, 0) := by decide +kernel
theorem op111_30 : rn_op 111 30 = some (.iload_n 3, 1, 0, 0, 0) := by decide +kernel
theorem op111_31 : rn_op 111 31 = some (.isub, 1, 0, 0, 0) := by decide +kernel
theorem op111_32 : rn_op 111 32 = some (.if_icmp .le 8, 3, 0, 0, 0) := by decide +kernel
theorem op111_35 : rn_op 111 35 = some (.bipush (-13), 2, 0, 0, 0) := by decide +kernel
theorem op111_37 : rn_op 111 37 = some (.goto 4, 3, 0, 0, 0) := by decide +kernel
theorem op111_40 : rn_op 111 40 = some (.iconst 0, 1, 0, 0, 0) := by decide +kernel
theorem op111_41 : rn_op 111 41 = some (.ireturn, 1, 0, 0, 0) := by decide +kernel
def sh_refusal (n : Nat) (q0 : Nat) (a1 : Int32) (a2 : Int32) (a3 : Int32) (m : rn_Mem) : Option (Int32 × rn_Mem) :=
  if (m.1 q0 0) = 0 then
    some ((-11), m)
  else
    if (m.1 q0 1) = a1 then
      if a2 < 0 then
        some ((-13), m)
      else
        if ((m.1 q0 2) - a3) < a2 then
          some ((-13), m)
        else
          some (0, m)
    else
      some ((-12), m)
set_option maxHeartbeats 4000000 in
set_option maxRecDepth 20000 in
theorem sh_refusal_ok (xs : List Int32) {d : Nat} (hd : 0 ≤ d) {n : Nat} {q0 : Nat} {a1 : Int32} {a2 : Int32} {a3 : Int32} {m mO : rn_Mem} {rO : Int32} (hq0 : sA_Sheet q0) (h : sh_refusal n q0 a1 a2 a3 m = some (rO, mO)) : rn_R xs d 111 0 (rn_ent 4 [.ref q0, .int a1, .int a2, .int a3]) [] (rn_SH, m) (some (.int rO)) (rn_SH, mO) := by
  unfold sh_refusal at h
  show rn_R xs d 111 0 [some (.ref q0), some (.int a1), some (.int a2), some (.int a3)] [] (rn_SH, m) (some (.int rO)) (rn_SH, mO)
  refine rx_p (L2 := [some (.ref q0), some (.int a1), some (.int a2), some (.int a3)]) (S2 := [.ref q0]) (pc2 := 1) op111_0 rfl rfl ?_
  refine rx_gf (v := .int (m.1 q0 0)) (pc2 := 4) op111_1 (hq0.1) rfl rfl rfl ?_
  refine ry_if_ne (tgt := 10) (pc2 := 7) op111_4 (by decide) (by decide) rfl (fun b1 => ?_) (fun b1 => ?_)
  · have h := (if_pos b1).symm.trans h
    refine rx_bp (v := (-11)) (pc2 := 9) op111_7 (by decide) rfl ?_
    obtain ⟨rfl, rfl⟩ := rq_ret h
    exact ry_ri op111_9 ms_111 rfl
  · have h := (if_neg b1).symm.trans h
    refine rx_p (L2 := [some (.ref q0), some (.int a1), some (.int a2), some (.int a3)]) (S2 := [.ref q0]) (pc2 := 11) op111_10 rfl rfl ?_
    refine rx_gf (v := .int (m.1 q0 1)) (pc2 := 14) op111_11 (hq0.1) rfl rfl rfl ?_
    refine rx_p (L2 := [some (.ref q0), some (.int a1), some (.int a2), some (.int a3)]) (S2 := [.int a1, .int (m.1 q0 1)]) (pc2 := 15) op111_14 rfl rfl ?_
    refine ry_ic_eq (tgt := 21) (pc2 := 18) op111_15 (by decide) (by decide) rfl (fun b2 => ?_) (fun b2 => ?_)
    · have h := (if_pos b2).symm.trans h
      refine rx_p (L2 := [some (.ref q0), some (.int a1), some (.int a2), some (.int a3)]) (S2 := [.int a2]) (pc2 := 22) op111_21 rfl rfl ?_
      refine ry_if_lt (tgt := 35) (pc2 := 25) op111_22 (by decide) (by decide) rfl (fun b3 => ?_) (fun b3 => ?_)
      · have h := (if_pos b3).symm.trans h
        refine rx_bp (v := (-13)) (pc2 := 37) op111_35 (by decide) rfl ?_
        refine ry_go (tgt := 41) op111_37 (by decide) (by decide) ?_
        obtain ⟨rfl, rfl⟩ := rq_ret h
        exact ry_ri op111_41 ms_111 rfl
      · have h := (if_neg b3).symm.trans h
        refine rx_p (L2 := [some (.ref q0), some (.int a1), some (.int a2), some (.int a3)]) (S2 := [.int a2]) (pc2 := 26) op111_25 rfl rfl ?_
        refine rx_p (L2 := [some (.ref q0), some (.int a1), some (.int a2), some (.int a3)]) (S2 := [.ref q0, .int a2]) (pc2 := 27) op111_26 rfl rfl ?_
        refine rx_gf (v := .int (m.1 q0 2)) (pc2 := 30) op111_27 (hq0.1) rfl rfl rfl ?_
        refine rx_p (L2 := [some (.ref q0), some (.int a1), some (.int a2), some (.int a3)]) (S2 := [.int a3, .int (m.1 q0 2), .int a2]) (pc2 := 31) op111_30 rfl rfl ?_
        refine rx_p (L2 := [some (.ref q0), some (.int a1), some (.int a2), some (.int a3)]) (S2 := [.int ((m.1 q0 2) - a3), .int a2]) (pc2 := 32) op111_31 rfl rfl ?_
        refine ry_ic_le (tgt := 40) (pc2 := 35) op111_32 (by decide) (by decide) rfl (fun b4 => ?_) (fun b4 => ?_)
        · have h := (if_pos b4).symm.trans h
          refine rx_bp (v := (-13)) (pc2 := 37) op111_35 (by decide) rfl ?_
          refine ry_go (tgt := 41) op111_37 (by decide) (by decide) ?_
          obtain ⟨rfl, rfl⟩ := rq_ret h
          exact ry_ri op111_41 ms_111 rfl
        · have h := (if_neg b4).symm.trans h
          refine rx_ic (v := 0) (pc2 := 41) op111_40 (by decide) rfl ?_
          obtain ⟨rfl, rfl⟩ := rq_ret h
          exact ry_ri op111_41 ms_111 rfl
    · have h := (if_neg b2).symm.trans h
      refine rx_bp (v := (-12)) (pc2 := 20) op111_18 (by decide) rfl ?_
      obtain ⟨rfl, rfl⟩ := rq_ret h
      exact ry_ri op111_20 ms_111 rfl
/-! ro_read -/
theorem op112_0 : rn_op 112 0 = some (.aload_n 0, 1, 0, 0, 0) := by decide +kernel
theorem op112_1 : rn_op 112 1 = some (.iconst 1, 1, 0, 0, 0) := by decide +kernel
theorem op112_2 : rn_op 112 2 = some (.putfield 24, 3, 3, 0, 2) := by decide +kernel
theorem op112_5 : rn_op 112 5 = some (.aload_n 0, 1, 0, 0, 0) := by decide +kernel
theorem op112_6 : rn_op 112 6 = some (.iload_n 1, 1, 0, 0, 0) := by decide +kernel
theorem op112_7 : rn_op 112 7 = some (.putfield 28, 3, 3, 1, 0) := by decide +kernel
theorem op112_10 : rn_op 112 10 = some (.iconst 0, 1, 0, 0, 0) := by decide +kernel
theorem op112_11 : rn_op 112 11 = some (.istore 5, 2, 0, 0, 0) := by decide +kernel
theorem op112_13 : rn_op 112 13 = some (.iload 5, 2, 0, 0, 0) := by decide +kernel
theorem op112_15 : rn_op 112 15 = some (.iload 4, 2, 0, 0, 0) := by decide +kernel
theorem op112_17 : rn_op 112 17 = some (.if_icmp .ge 32, 3, 0, 0, 0) := by decide +kernel
theorem op112_20 : rn_op 112 20 = some (.iload 5, 2, 0, 0, 0) := by decide +kernel
theorem op112_22 : rn_op 112 22 = some (.bipush 12, 2, 0, 0, 0) := by decide +kernel
theorem op112_24 : rn_op 112 24 = some (.if_icmp .ge 25, 3, 0, 0, 0) := by decide +kernel
theorem op112_27 : rn_op 112 27 = some (.aload_n 0, 1, 0, 0, 0) := by decide +kernel
theorem op112_28 : rn_op 112 28 = some (.getfield 9, 3, 3, 2, 3) := by decide +kernel
theorem op112_31 : rn_op 112 31 = some (.iload 5, 2, 0, 0, 0) := by decide +kernel
theorem op112_33 : rn_op 112 33 = some (.aload_n 2, 1, 0, 0, 0) := by decide +kernel
theorem op112_34 : rn_op 112 34 = some (.getfield 32, 3, 5, 3, 3) := by decide +kernel
theorem op112_37 : rn_op 112 37 = some (.iload_n 3, 1, 0, 0, 0) := by decide +kernel
theorem op112_38 : rn_op 112 38 = some (.iload 5, 2, 0, 0, 0) := by decide +kernel
theorem op112_40 : rn_op 112 40 = some (.iadd, 1, 0, 0, 0) := by decide +kernel
theorem op112_41 : rn_op 112 41 = some (.iaload, 1, 0, 0, 0) := by decide +kernel
theorem op112_42 : rn_op 112 42 = some (.iastore, 1, 0, 0, 0) := by decide +kernel
theorem op112_43 : rn_op 112 43 = some (.iinc 5 1, 3, 0, 0, 0) := by decide +kernel
theorem op112_46 : rn_op 112 46 = some (.goto (-33), 3, 0, 0, 0) := by decide +kernel
theorem op112_49 : rn_op 112 49 = some (.iconst 0, 1, 0, 0, 0) := by decide +kernel
theorem op112_50 : rn_op 112 50 = some (.istore 5, 2, 0, 0, 0) := by decide +kernel
theorem op112_52 : rn_op 112 52 = some (.iload 5, 2, 0, 0, 0) := by decide +kernel
theorem op112_54 : rn_op 112 54 = some (.bipush 12, 2, 0, 0, 0) := by decide +kernel
theorem op112_56 : rn_op 112 56 = some (.if_icmp .gt 17, 3, 0, 0, 0) := by decide +kernel
theorem op112_59 : rn_op 112 59 = some (.aload_n 0, 1, 0, 0, 0) := by decide +kernel
theorem op112_60 : rn_op 112 60 = some (.getfield 21, 3, 3, 5, 3) := by decide +kernel
theorem op112_63 : rn_op 112 63 = some (.iload 5, 2, 0, 0, 0) := by decide +kernel
theorem op112_65 : rn_op 112 65 = some (.iconst (-1), 1, 0, 0, 0) := by decide +kernel
theorem op112_66 : rn_op 112 66 = some (.iastore, 1, 0, 0, 0) := by decide +kernel
theorem op112_67 : rn_op 112 67 = some (.iinc 5 1, 3, 0, 0, 0) := by decide +kernel
theorem op112_70 : rn_op 112 70 = some (.goto (-18), 3, 0, 0, 0) := by decide +kernel
theorem op112_73 : rn_op 112 73 = some (.return_, 1, 0, 0, 0) := by decide +kernel
def ro_read_l13 (q0 : Nat) (q2 : Nat) (a3 : Int32) (a4 : Int32) : Nat → Int32 → rn_Mem → Option (rn_Mem)
  | 0, _, _ => none
  | n + 1, a5, m =>
    if a5 < a4 then
      if a5 < 12 then
        if rn_in (a3 + a5) 24 = true then
          if rn_in a5 12 = true then
            (some (rm_i m (q0 + 1) a5.toNatClampNeg (m.1 (q2 + 1) (a3 + a5).toNatClampNeg))).bind fun (m6 : rn_Mem) =>
            (some (a5 + 1)).bind fun (x8 : Int32) =>
            ro_read_l13 q0 q2 a3 a4 n x8 m6
          else none
        else none
      else
        some m
    else
      some m
def ro_read_l52 (q0 : Nat) : Nat → Int32 → rn_Mem → Option (rn_Mem)
  | 0, _, _ => none
  | n + 1, a5, m =>
    if 12 < a5 then
      some m
    else
      if rn_in a5 13 = true then
        (some (rm_i m (q0 + 4) a5.toNatClampNeg (-1))).bind fun (m17 : rn_Mem) =>
        (some (a5 + 1)).bind fun (x19 : Int32) =>
        ro_read_l52 q0 n x19 m17
      else none
def ro_read (n : Nat) (q0 : Nat) (a1 : Int32) (q2 : Nat) (a3 : Int32) (a4 : Int32) (m : rn_Mem) : Option (rn_Mem) :=
  (some (rm_i m q0 0 1)).bind fun (m1 : rn_Mem) =>
  (some (rm_i m1 q0 1 a1)).bind fun (m2 : rn_Mem) =>
  (ro_read_l13 q0 q2 a3 a4 n 0 m2).bind fun m9 =>
  (ro_read_l52 q0 n 0 m9).bind fun m21 =>
  some m21
set_option maxHeartbeats 4000000 in
set_option maxRecDepth 20000 in
theorem ro_read_l13_ok (xs : List Int32) {d : Nat} {q0 : Nat} {q2 : Nat} {a3 : Int32} {a4 : Int32} {r : Option Value} {τ : rn_H} {out : rn_Mem} (hr : ∀ (mO : rn_Mem), out = mO → ∀ (o1 o2 o3 o4 o5 : Option Value), rn_R xs d 112 49 [some (.ref q0), o1, o2, o3, o4, o5] [] (rn_SH, mO) r τ) : ∀ (n : Nat) (a5 : Int32) (o1 : Option Value) (m : rn_Mem), sA_Row q0 → sA_Sheet q2 → ro_read_l13 q0 q2 a3 a4 n a5 m = some out → rn_R xs d 112 13 [some (.ref q0), o1, some (.ref q2), some (.int a3), some (.int a4), some (.int a5)] [] (rn_SH, m) r τ := by
  intro n
  induction n with
  | zero =>
    intro _ _ _ _ _ h
    cases h
  | succ n ih =>
    intro a5 o1 m hq0 hq2 h
    unfold ro_read_l13 at h
    try dsimp only at h
    refine rx_p (L2 := [some (.ref q0), o1, some (.ref q2), some (.int a3), some (.int a4), some (.int a5)]) (S2 := [.int a5]) (pc2 := 15) op112_13 rfl rfl ?_
    refine rx_p (L2 := [some (.ref q0), o1, some (.ref q2), some (.int a3), some (.int a4), some (.int a5)]) (S2 := [.int a4, .int a5]) (pc2 := 17) op112_15 rfl rfl ?_
    refine ry_ic_ge (tgt := 49) (pc2 := 20) op112_17 (by decide) (by decide) rfl (fun b3 => ?_) (fun b3 => ?_)
    · have h := (if_pos b3).symm.trans h
      refine rx_p (L2 := [some (.ref q0), o1, some (.ref q2), some (.int a3), some (.int a4), some (.int a5)]) (S2 := [.int a5]) (pc2 := 22) op112_20 rfl rfl ?_
      refine rx_bp (v := 12) (pc2 := 24) op112_22 (by decide) rfl ?_
      refine ry_ic_ge (tgt := 49) (pc2 := 27) op112_24 (by decide) (by decide) rfl (fun b4 => ?_) (fun b4 => ?_)
      · have h := (if_pos b4).symm.trans h
        refine rx_p (L2 := [some (.ref q0), o1, some (.ref q2), some (.int a3), some (.int a4), some (.int a5)]) (S2 := [.ref q0]) (pc2 := 28) op112_27 rfl rfl ?_
        refine rx_gf (v := .ref (q0 + 1)) (pc2 := 31) op112_28 (hq0.1) rfl rfl rfl ?_
        refine rx_p (L2 := [some (.ref q0), o1, some (.ref q2), some (.int a3), some (.int a4), some (.int a5)]) (S2 := [.int a5, .ref (q0 + 1)]) (pc2 := 33) op112_31 rfl rfl ?_
        refine rx_p (L2 := [some (.ref q0), o1, some (.ref q2), some (.int a3), some (.int a4), some (.int a5)]) (S2 := [.ref q2, .int a5, .ref (q0 + 1)]) (pc2 := 34) op112_33 rfl rfl ?_
        refine rx_gf (v := .ref (q2 + 1)) (pc2 := 37) op112_34 (hq2.1) rfl rfl rfl ?_
        refine rx_p (L2 := [some (.ref q0), o1, some (.ref q2), some (.int a3), some (.int a4), some (.int a5)]) (S2 := [.int a3, .ref (q2 + 1), .int a5, .ref (q0 + 1)]) (pc2 := 38) op112_37 rfl rfl ?_
        refine rx_p (L2 := [some (.ref q0), o1, some (.ref q2), some (.int a3), some (.int a4), some (.int a5)]) (S2 := [.int a5, .int a3, .ref (q2 + 1), .int a5, .ref (q0 + 1)]) (pc2 := 40) op112_38 rfl rfl ?_
        refine rx_p (L2 := [some (.ref q0), o1, some (.ref q2), some (.int a3), some (.int a4), some (.int a5)]) (S2 := [.int (a3 + a5), .ref (q2 + 1), .int a5, .ref (q0 + 1)]) (pc2 := 41) op112_40 rfl rfl ?_
        obtain ⟨k5, h⟩ := rq_chk h
        refine rx_ia (pc2 := 42) op112_41 (rn_shlt (hq2.2)) (hq2.2) k5 rfl rfl ?_
        obtain ⟨k7, h⟩ := rq_chk h
        obtain ⟨m6, em6, h⟩ := rq_bv h
        refine rx_is (m2 := m6) (pc2 := 43) op112_42 (hq0.2.1) k7 rfl em6 rfl ?_
        obtain ⟨x8, ex8, h⟩ := rq_bv h
        refine rx_inc (w := 1) (v := x8) (L2 := [some (.ref q0), o1, some (.ref q2), some (.int a3), some (.int a4), some (.int x8)]) (pc2 := 46) op112_43 rfl (by decide) ex8 rfl rfl ?_
        refine ry_go (tgt := 13) op112_46 (by decide) (by decide) ?_
        exact ih _ _ _ hq0 hq2 h
      · have h := (if_neg b4).symm.trans h
        cases h
        exact hr _ rfl _ _ _ _ _
    · have h := (if_neg b3).symm.trans h
      cases h
      exact hr _ rfl _ _ _ _ _
set_option maxHeartbeats 4000000 in
set_option maxRecDepth 20000 in
theorem ro_read_l52_ok (xs : List Int32) {d : Nat} {q0 : Nat} {r : Option Value} {τ : rn_H} {out : rn_Mem} (hr : ∀ (mO : rn_Mem), out = mO → ∀ (o0 o1 o2 o3 o4 o5 : Option Value), rn_R xs d 112 73 [o0, o1, o2, o3, o4, o5] [] (rn_SH, mO) r τ) : ∀ (n : Nat) (a5 : Int32) (o1 o2 o3 o4 : Option Value) (m : rn_Mem), sA_Row q0 → ro_read_l52 q0 n a5 m = some out → rn_R xs d 112 52 [some (.ref q0), o1, o2, o3, o4, some (.int a5)] [] (rn_SH, m) r τ := by
  intro n
  induction n with
  | zero =>
    intro _ _ _ _ _ _ _ h
    cases h
  | succ n ih =>
    intro a5 o1 o2 o3 o4 m hq0 h
    unfold ro_read_l52 at h
    try dsimp only at h
    refine rx_p (L2 := [some (.ref q0), o1, o2, o3, o4, some (.int a5)]) (S2 := [.int a5]) (pc2 := 54) op112_52 rfl rfl ?_
    refine rx_bp (v := 12) (pc2 := 56) op112_54 (by decide) rfl ?_
    refine ry_ic_gt (tgt := 73) (pc2 := 59) op112_56 (by decide) (by decide) rfl (fun b16 => ?_) (fun b16 => ?_)
    · have h := (if_pos b16).symm.trans h
      cases h
      exact hr _ rfl _ _ _ _ _ _
    · have h := (if_neg b16).symm.trans h
      refine rx_p (L2 := [some (.ref q0), o1, o2, o3, o4, some (.int a5)]) (S2 := [.ref q0]) (pc2 := 60) op112_59 rfl rfl ?_
      refine rx_gf (v := .ref (q0 + 4)) (pc2 := 63) op112_60 (hq0.1) rfl rfl rfl ?_
      refine rx_p (L2 := [some (.ref q0), o1, o2, o3, o4, some (.int a5)]) (S2 := [.int a5, .ref (q0 + 4)]) (pc2 := 65) op112_63 rfl rfl ?_
      refine rx_ic (v := (-1)) (pc2 := 66) op112_65 (by decide) rfl ?_
      obtain ⟨k18, h⟩ := rq_chk h
      obtain ⟨m17, em17, h⟩ := rq_bv h
      refine rx_is (m2 := m17) (pc2 := 67) op112_66 (hq0.2.2.2.2) k18 rfl em17 rfl ?_
      obtain ⟨x19, ex19, h⟩ := rq_bv h
      refine rx_incd (w := 1) (v := x19) (j := 4) (pc2 := 70) op112_67 rfl (by decide) ex19 rfl (fun o20 => ?_)
      show rn_R _ _ _ _ [some (.ref q0), o1, o2, o3, o20, some (.int x19)] _ _ _ _
      refine ry_go (tgt := 52) op112_70 (by decide) (by decide) ?_
      exact ih _ _ _ _ _ _ hq0 h
set_option maxHeartbeats 4000000 in
set_option maxRecDepth 20000 in
theorem ro_read_ok (xs : List Int32) {d : Nat} (hd : 0 ≤ d) {n : Nat} {q0 : Nat} {a1 : Int32} {q2 : Nat} {a3 : Int32} {a4 : Int32} {m mO : rn_Mem} (hq0 : sA_Row q0) (hq2 : sA_Sheet q2) (h : ro_read n q0 a1 q2 a3 a4 m = some mO) : rn_R xs d 112 0 (rn_ent 6 [.ref q0, .int a1, .ref q2, .int a3, .int a4]) [] (rn_SH, m) none (rn_SH, mO) := by
  unfold ro_read at h
  show rn_R xs d 112 0 [some (.ref q0), some (.int a1), some (.ref q2), some (.int a3), some (.int a4), none] [] (rn_SH, m) none (rn_SH, mO)
  refine rx_p (L2 := [some (.ref q0), some (.int a1), some (.ref q2), some (.int a3), some (.int a4), none]) (S2 := [.ref q0]) (pc2 := 1) op112_0 rfl rfl ?_
  refine rx_ic (v := 1) (pc2 := 2) op112_1 (by decide) rfl ?_
  obtain ⟨m1, em1, h⟩ := rq_bv h
  refine rx_pz (m2 := m1) (pc2 := 5) op112_2 (hq0.1) rfl (by decide) em1 rfl ?_
  refine rx_p (L2 := [some (.ref q0), some (.int a1), some (.ref q2), some (.int a3), some (.int a4), none]) (S2 := [.ref q0]) (pc2 := 6) op112_5 rfl rfl ?_
  refine rx_p (L2 := [some (.ref q0), some (.int a1), some (.ref q2), some (.int a3), some (.int a4), none]) (S2 := [.int a1, .ref q0]) (pc2 := 7) op112_6 rfl rfl ?_
  obtain ⟨m2, em2, h⟩ := rq_bv h
  refine rx_pf (m2 := m2) (pc2 := 10) op112_7 (hq0.1) rfl em2 rfl ?_
  refine rx_ic (v := 0) (pc2 := 11) op112_10 (by decide) rfl ?_
  refine rx_s (L2 := [some (.ref q0), some (.int a1), some (.ref q2), some (.int a3), some (.int a4), some (.int 0)]) (pc2 := 13) op112_11 rfl rfl rfl ?_
  obtain ⟨m9, f29, h⟩ := rq_bind h
  refine ro_read_l13_ok xs (fun m0 eq => ?_) _ _ _ _ hq0 hq2 f29
  subst eq
  try dsimp only at h
  intro o10 o11 o12 o13 o14
  refine rx_ic (v := 0) (pc2 := 50) op112_49 (by decide) rfl ?_
  refine rx_sd (v := 0) (j := 4) (pc2 := 52) op112_50 rfl rfl (Nat.le_of_ble_eq_true rfl) rfl (fun o15 => ?_)
  show rn_R _ _ _ _ [some (.ref q0), o10, o11, o12, o15, some (.int 0)] _ _ _ _
  obtain ⟨m21, f28, h⟩ := rq_bind h
  refine ro_read_l52_ok xs (fun m0 eq => ?_) _ _ _ _ _ _ _ hq0 f28
  subst eq
  try dsimp only at h
  intro o22 o23 o24 o25 o26 o27
  obtain rfl := Option.some.inj h
  exact ry_rv op112_73 ms_112 rfl
/-! ro_stranger -/
theorem op113_0 : rn_op 113 0 = some (.iconst 0, 1, 0, 0, 0) := by decide +kernel
theorem op113_1 : rn_op 113 1 = some (.istore_n 2, 1, 0, 0, 0) := by decide +kernel
theorem op113_2 : rn_op 113 2 = some (.iconst 0, 1, 0, 0, 0) := by decide +kernel
theorem op113_3 : rn_op 113 3 = some (.istore_n 3, 1, 0, 0, 0) := by decide +kernel
theorem op113_4 : rn_op 113 4 = some (.iload_n 3, 1, 0, 0, 0) := by decide +kernel
theorem op113_5 : rn_op 113 5 = some (.aload_n 1, 1, 0, 0, 0) := by decide +kernel
theorem op113_6 : rn_op 113 6 = some (.invokevirtual 37, 3, 23, 1, 1) := by decide +kernel
theorem op113_9 : rn_op 113 9 = some (.if_icmp .ge 48, 3, 0, 0, 0) := by decide +kernel
theorem op113_12 : rn_op 113 12 = some (.aload_n 1, 1, 0, 0, 0) := by decide +kernel
theorem op113_13 : rn_op 113 13 = some (.aload_n 0, 1, 0, 0, 0) := by decide +kernel
theorem op113_14 : rn_op 113 14 = some (.getfield 9, 3, 3, 2, 3) := by decide +kernel
theorem op113_17 : rn_op 113 17 = some (.iload_n 3, 1, 0, 0, 0) := by decide +kernel
theorem op113_18 : rn_op 113 18 = some (.iaload, 1, 0, 0, 0) := by decide +kernel
theorem op113_19 : rn_op 113 19 = some (.invokevirtual 42, 3, 50, 2, 1) := by decide +kernel
theorem op113_22 : rn_op 113 22 = some (.ifCond .eq 16, 3, 0, 0, 0) := by decide +kernel
theorem op113_25 : rn_op 113 25 = some (.iload_n 2, 1, 0, 0, 0) := by decide +kernel
theorem op113_26 : rn_op 113 26 = some (.aload_n 0, 1, 0, 0, 0) := by decide +kernel
theorem op113_27 : rn_op 113 27 = some (.getfield 9, 3, 3, 2, 3) := by decide +kernel
theorem op113_30 : rn_op 113 30 = some (.iload_n 3, 1, 0, 0, 0) := by decide +kernel
theorem op113_31 : rn_op 113 31 = some (.iaload, 1, 0, 0, 0) := by decide +kernel
theorem op113_32 : rn_op 113 32 = some (.ishr, 1, 0, 0, 0) := by decide +kernel
theorem op113_33 : rn_op 113 33 = some (.iconst 1, 1, 0, 0, 0) := by decide +kernel
theorem op113_34 : rn_op 113 34 = some (.iand, 1, 0, 0, 0) := by decide +kernel
theorem op113_35 : rn_op 113 35 = some (.ifCond .eq 5, 3, 0, 0, 0) := by decide +kernel
theorem op113_38 : rn_op 113 38 = some (.iload_n 3, 1, 0, 0, 0) := by decide +kernel
theorem op113_39 : rn_op 113 39 = some (.ireturn, 1, 0, 0, 0) := by decide +kernel
theorem op113_40 : rn_op 113 40 = some (.iload_n 2, 1, 0, 0, 0) := by decide +kernel
theorem op113_41 : rn_op 113 41 = some (.iconst 1, 1, 0, 0, 0) := by decide +kernel
theorem op113_42 : rn_op 113 42 = some (.aload_n 0, 1, 0, 0, 0) := by decide +kernel
theorem op113_43 : rn_op 113 43 = some (.getfield 9, 3, 3, 2, 3) := by decide +kernel
theorem op113_46 : rn_op 113 46 = some (.iload_n 3, 1, 0, 0, 0) := by decide +kernel
theorem op113_47 : rn_op 113 47 = some (.iaload, 1, 0, 0, 0) := by decide +kernel
theorem op113_48 : rn_op 113 48 = some (.ishl, 1, 0, 0, 0) := by decide +kernel
theorem op113_49 : rn_op 113 49 = some (.ior, 1, 0, 0, 0) := by decide +kernel
theorem op113_50 : rn_op 113 50 = some (.istore_n 2, 1, 0, 0, 0) := by decide +kernel
theorem op113_51 : rn_op 113 51 = some (.iinc 3 1, 3, 0, 0, 0) := by decide +kernel
theorem op113_54 : rn_op 113 54 = some (.goto (-50), 3, 0, 0, 0) := by decide +kernel
theorem op113_57 : rn_op 113 57 = some (.bipush (-4), 2, 0, 0, 0) := by decide +kernel
theorem op113_59 : rn_op 113 59 = some (.ireturn, 1, 0, 0, 0) := by decide +kernel
def ro_stranger_l4 (q0 : Nat) (q1 : Nat) : Nat → Int32 → Int32 → rn_Mem → Option ((Int32 × rn_Mem) ⊕ (rn_Mem))
  | 0, _, _, _ => none
  | n + 1, a2, a3, m =>
    (ga_cards n q1 m).bind fun (r2, m1) =>
    if a3 < r2 then
      if rn_in a3 12 = true then
        (ga_has n q1 (m1.1 (q0 + 1) a3.toNatClampNeg) m1).bind fun (r7, m6) =>
        if r7 = 0 then
          some (.inl (a3, m6))
        else
          if rn_in a3 12 = true then
            if ((a2 >>> ((m6.1 (q0 + 1) a3.toNatClampNeg) &&& 31)) &&& 1) = 0 then
              if rn_in a3 12 = true then
                (some (a2 ||| ((1 : Int32) <<< ((m6.1 (q0 + 1) a3.toNatClampNeg) &&& 31)))).bind fun (x13 : Int32) =>
                (some (a3 + 1)).bind fun (x14 : Int32) =>
                ro_stranger_l4 q0 q1 n x13 x14 m6
              else none
            else
              some (.inl (a3, m6))
          else none
      else none
    else
      some (.inr m1)
def ro_stranger (n : Nat) (q0 : Nat) (q1 : Nat) (m : rn_Mem) : Option (Int32 × rn_Mem) :=
  (ro_stranger_l4 q0 q1 n 0 0 m).bind fun q => match q with
  | .inl o => some o
  | .inr m15 =>
  some ((-4), m15)
set_option maxHeartbeats 4000000 in
set_option maxRecDepth 20000 in
theorem ro_stranger_l4_ok (xs : List Int32) {d : Nat} (hd : 1 ≤ d + 1) {q0 : Nat} {q1 : Nat} {r : Option Value} {τ : rn_H} {out : (Int32 × rn_Mem) ⊕ (rn_Mem)} (hl : ∀ (rO : Int32) (mO : rn_Mem), out = .inl (rO, mO) → r = (some (.int rO)) ∧ τ = (rn_SH, mO)) (hr : ∀ (mO : rn_Mem), out = .inr mO → ∀ (o0 o1 o2 o3 : Option Value), rn_R xs (d + 1) 113 57 [o0, o1, o2, o3] [] (rn_SH, mO) r τ) : ∀ (n : Nat) (a2 : Int32) (a3 : Int32) (m : rn_Mem), sA_Row q0 → sA_Game q1 → ro_stranger_l4 q0 q1 n a2 a3 m = some out → rn_R xs (d + 1) 113 4 [some (.ref q0), some (.ref q1), some (.int a2), some (.int a3)] [] (rn_SH, m) r τ := by
  intro n
  induction n with
  | zero =>
    intro _ _ _ _ _ h
    cases h
  | succ n ih =>
    intro a2 a3 m hq0 hq1 h
    unfold ro_stranger_l4 at h
    try dsimp only at h
    refine rx_p (L2 := [some (.ref q0), some (.ref q1), some (.int a2), some (.int a3)]) (S2 := [.int a3]) (pc2 := 5) op113_4 rfl rfl ?_
    refine rx_p (L2 := [some (.ref q0), some (.ref q1), some (.int a2), some (.int a3)]) (S2 := [.ref q1, .int a3]) (pc2 := 6) op113_5 rfl rfl ?_
    obtain ⟨⟨r2, m1⟩, f3, h⟩ := rq_bind h
    try dsimp only at h
    refine ry_iv (p := q1) (vs := []) (T := [.int a3]) (pc2 := 9) op113_6 ms_23 (by decide) rfl rfl (Nat.le_of_ble_eq_true rfl) (Nat.le_of_ble_eq_true rfl) hq1 (ga_cards_ok xs (by omega) hq1 f3) rfl ?_
    show rn_R _ _ _ _ _ [.int r2, .int a3] _ _ _
    refine ry_ic_ge (tgt := 57) (pc2 := 12) op113_9 (by decide) (by decide) rfl (fun b4 => ?_) (fun b4 => ?_)
    · have h := (if_pos b4).symm.trans h
      refine rx_p (L2 := [some (.ref q0), some (.ref q1), some (.int a2), some (.int a3)]) (S2 := [.ref q1]) (pc2 := 13) op113_12 rfl rfl ?_
      refine rx_p (L2 := [some (.ref q0), some (.ref q1), some (.int a2), some (.int a3)]) (S2 := [.ref q0, .ref q1]) (pc2 := 14) op113_13 rfl rfl ?_
      refine rx_gf (v := .ref (q0 + 1)) (pc2 := 17) op113_14 (hq0.1) rfl rfl rfl ?_
      refine rx_p (L2 := [some (.ref q0), some (.ref q1), some (.int a2), some (.int a3)]) (S2 := [.int a3, .ref (q0 + 1), .ref q1]) (pc2 := 18) op113_17 rfl rfl ?_
      obtain ⟨k5, h⟩ := rq_chk h
      refine rx_ia (pc2 := 19) op113_18 (rn_shlt (hq0.2.1)) (hq0.2.1) k5 rfl rfl ?_
      obtain ⟨⟨r7, m6⟩, f8, h⟩ := rq_bind h
      try dsimp only at h
      refine ry_iv (p := q1) (vs := [.int (m1.1 (q0 + 1) a3.toNatClampNeg)]) (T := []) (pc2 := 22) op113_19 ms_50 (by decide) rfl rfl (Nat.le_of_ble_eq_true rfl) (Nat.le_of_ble_eq_true rfl) hq1 (ga_has_ok xs (by omega) hq1 f8) rfl ?_
      show rn_R _ _ _ _ _ [.int r7] _ _ _
      refine ry_if_eq (tgt := 38) (pc2 := 25) op113_22 (by decide) (by decide) rfl (fun b9 => ?_) (fun b9 => ?_)
      · have h := (if_pos b9).symm.trans h
        refine rx_p (L2 := [some (.ref q0), some (.ref q1), some (.int a2), some (.int a3)]) (S2 := [.int a3]) (pc2 := 39) op113_38 rfl rfl ?_
        cases h
        obtain ⟨rfl, rfl⟩ := hl _ _ rfl
        exact ry_ri op113_39 ms_113 rfl
      · have h := (if_neg b9).symm.trans h
        refine rx_p (L2 := [some (.ref q0), some (.ref q1), some (.int a2), some (.int a3)]) (S2 := [.int a2]) (pc2 := 26) op113_25 rfl rfl ?_
        refine rx_p (L2 := [some (.ref q0), some (.ref q1), some (.int a2), some (.int a3)]) (S2 := [.ref q0, .int a2]) (pc2 := 27) op113_26 rfl rfl ?_
        refine rx_gf (v := .ref (q0 + 1)) (pc2 := 30) op113_27 (hq0.1) rfl rfl rfl ?_
        refine rx_p (L2 := [some (.ref q0), some (.ref q1), some (.int a2), some (.int a3)]) (S2 := [.int a3, .ref (q0 + 1), .int a2]) (pc2 := 31) op113_30 rfl rfl ?_
        obtain ⟨k10, h⟩ := rq_chk h
        refine rx_ia (pc2 := 32) op113_31 (rn_shlt (hq0.2.1)) (hq0.2.1) k10 rfl rfl ?_
        refine rx_p (L2 := [some (.ref q0), some (.ref q1), some (.int a2), some (.int a3)]) (S2 := [.int (a2 >>> ((m6.1 (q0 + 1) a3.toNatClampNeg) &&& 31))]) (pc2 := 33) op113_32 rfl rfl ?_
        refine rx_ic (v := 1) (pc2 := 34) op113_33 (by decide) rfl ?_
        refine rx_p (L2 := [some (.ref q0), some (.ref q1), some (.int a2), some (.int a3)]) (S2 := [.int ((a2 >>> ((m6.1 (q0 + 1) a3.toNatClampNeg) &&& 31)) &&& 1)]) (pc2 := 35) op113_34 rfl rfl ?_
        refine ry_if_eq (tgt := 40) (pc2 := 38) op113_35 (by decide) (by decide) rfl (fun b11 => ?_) (fun b11 => ?_)
        · have h := (if_pos b11).symm.trans h
          refine rx_p (L2 := [some (.ref q0), some (.ref q1), some (.int a2), some (.int a3)]) (S2 := [.int a2]) (pc2 := 41) op113_40 rfl rfl ?_
          refine rx_ic (v := 1) (pc2 := 42) op113_41 (by decide) rfl ?_
          refine rx_p (L2 := [some (.ref q0), some (.ref q1), some (.int a2), some (.int a3)]) (S2 := [.ref q0, .int 1, .int a2]) (pc2 := 43) op113_42 rfl rfl ?_
          refine rx_gf (v := .ref (q0 + 1)) (pc2 := 46) op113_43 (hq0.1) rfl rfl rfl ?_
          refine rx_p (L2 := [some (.ref q0), some (.ref q1), some (.int a2), some (.int a3)]) (S2 := [.int a3, .ref (q0 + 1), .int 1, .int a2]) (pc2 := 47) op113_46 rfl rfl ?_
          obtain ⟨k12, h⟩ := rq_chk h
          refine rx_ia (pc2 := 48) op113_47 (rn_shlt (hq0.2.1)) (hq0.2.1) k12 rfl rfl ?_
          refine rx_p (L2 := [some (.ref q0), some (.ref q1), some (.int a2), some (.int a3)]) (S2 := [.int ((1 : Int32) <<< ((m6.1 (q0 + 1) a3.toNatClampNeg) &&& 31)), .int a2]) (pc2 := 49) op113_48 rfl rfl ?_
          refine rx_p (L2 := [some (.ref q0), some (.ref q1), some (.int a2), some (.int a3)]) (S2 := [.int (a2 ||| ((1 : Int32) <<< ((m6.1 (q0 + 1) a3.toNatClampNeg) &&& 31)))]) (pc2 := 50) op113_49 rfl rfl ?_
          obtain ⟨x13, ex13, h⟩ := rq_bv h
          refine rx_s (v := x13) (L2 := [some (.ref q0), some (.ref q1), some (.int x13), some (.int a3)]) (pc2 := 51) op113_50 ex13 rfl rfl ?_
          obtain ⟨x14, ex14, h⟩ := rq_bv h
          refine rx_inc (w := 1) (v := x14) (L2 := [some (.ref q0), some (.ref q1), some (.int x13), some (.int x14)]) (pc2 := 54) op113_51 rfl (by decide) ex14 rfl rfl ?_
          refine ry_go (tgt := 4) op113_54 (by decide) (by decide) ?_
          exact ih _ _ _ hq0 hq1 h
        · have h := (if_neg b11).symm.trans h
          refine rx_p (L2 := [some (.ref q0), some (.ref q1), some (.int a2), some (.int a3)]) (S2 := [.int a3]) (pc2 := 39) op113_38 rfl rfl ?_
          cases h
          obtain ⟨rfl, rfl⟩ := hl _ _ rfl
          exact ry_ri op113_39 ms_113 rfl
    · have h := (if_neg b4).symm.trans h
      cases h
      exact hr _ rfl _ _ _ _
set_option maxHeartbeats 4000000 in
set_option maxRecDepth 20000 in
theorem ro_stranger_ok (xs : List Int32) {d : Nat} (hd : 1 ≤ d) {n : Nat} {q0 : Nat} {q1 : Nat} {m mO : rn_Mem} {rO : Int32} (hq0 : sA_Row q0) (hq1 : sA_Game q1) (h : ro_stranger n q0 q1 m = some (rO, mO)) : rn_R xs d 113 0 (rn_ent 4 [.ref q0, .ref q1]) [] (rn_SH, m) (some (.int rO)) (rn_SH, mO) := by
  obtain ⟨d, rfl⟩ : ∃ e, d = e + 1 := ⟨d - 1, by omega⟩
  unfold ro_stranger at h
  show rn_R xs (d + 1) 113 0 [some (.ref q0), some (.ref q1), none, none] [] (rn_SH, m) (some (.int rO)) (rn_SH, mO)
  refine rx_ic (v := 0) (pc2 := 1) op113_0 (by decide) rfl ?_
  refine rx_s (L2 := [some (.ref q0), some (.ref q1), some (.int 0), none]) (pc2 := 2) op113_1 rfl rfl rfl ?_
  refine rx_ic (v := 0) (pc2 := 3) op113_2 (by decide) rfl ?_
  refine rx_s (L2 := [some (.ref q0), some (.ref q1), some (.int 0), some (.int 0)]) (pc2 := 4) op113_3 rfl rfl rfl ?_
  obtain ⟨wf20, f20, h⟩ := rq_bind h
  refine ro_stranger_l4_ok xs hd (fun v0 m0 eq => ?_) (fun m15 eq => ?_) _ _ _ _ hq0 hq1 f20
  · subst eq
    try dsimp only at h
    cases h
    exact ⟨rfl, rfl⟩
  · subst eq
    try dsimp only at h
    intro o16 o17 o18 o19
    refine rx_bp (v := (-4)) (pc2 := 59) op113_57 (by decide) rfl ?_
    obtain ⟨rfl, rfl⟩ := rq_ret h
    exact ry_ri op113_59 ms_113 rfl
/-! ro_seat -/
theorem op114_0 : rn_op 114 0 = some (.aload_n 0, 1, 0, 0, 0) := by decide +kernel
theorem op114_1 : rn_op 114 1 = some (.getfield 28, 3, 3, 1, 0) := by decide +kernel
theorem op114_4 : rn_op 114 4 = some (.istore_n 2, 1, 0, 0, 0) := by decide +kernel
theorem op114_5 : rn_op 114 5 = some (.iconst 0, 1, 0, 0, 0) := by decide +kernel
theorem op114_6 : rn_op 114 6 = some (.istore_n 3, 1, 0, 0, 0) := by decide +kernel
theorem op114_7 : rn_op 114 7 = some (.iconst 0, 1, 0, 0, 0) := by decide +kernel
theorem op114_8 : rn_op 114 8 = some (.istore 4, 2, 0, 0, 0) := by decide +kernel
theorem op114_10 : rn_op 114 10 = some (.iload 4, 2, 0, 0, 0) := by decide +kernel
theorem op114_12 : rn_op 114 12 = some (.aload_n 1, 1, 0, 0, 0) := by decide +kernel
theorem op114_13 : rn_op 114 13 = some (.getfield 46, 3, 1, 2, 0) := by decide +kernel
theorem op114_16 : rn_op 114 16 = some (.if_icmp .ge 132, 3, 0, 0, 0) := by decide +kernel
theorem op114_19 : rn_op 114 19 = some (.iconst (-1), 1, 0, 0, 0) := by decide +kernel
theorem op114_20 : rn_op 114 20 = some (.istore 5, 2, 0, 0, 0) := by decide +kernel
theorem op114_22 : rn_op 114 22 = some (.iload_n 2, 1, 0, 0, 0) := by decide +kernel
theorem op114_23 : rn_op 114 23 = some (.istore 6, 2, 0, 0, 0) := by decide +kernel
theorem op114_25 : rn_op 114 25 = some (.iconst 0, 1, 0, 0, 0) := by decide +kernel
theorem op114_26 : rn_op 114 26 = some (.istore 7, 2, 0, 0, 0) := by decide +kernel
theorem op114_28 : rn_op 114 28 = some (.iload 7, 2, 0, 0, 0) := by decide +kernel
theorem op114_30 : rn_op 114 30 = some (.aload_n 1, 1, 0, 0, 0) := by decide +kernel
theorem op114_31 : rn_op 114 31 = some (.getfield 49, 3, 1, 1, 0) := by decide +kernel
theorem op114_34 : rn_op 114 34 = some (.if_icmp .ge 47, 3, 0, 0, 0) := by decide +kernel
theorem op114_37 : rn_op 114 37 = some (.aload_n 0, 1, 0, 0, 0) := by decide +kernel
theorem op114_38 : rn_op 114 38 = some (.getfield 15, 3, 3, 3, 3) := by decide +kernel
theorem op114_41 : rn_op 114 41 = some (.iload_n 3, 1, 0, 0, 0) := by decide +kernel
theorem op114_42 : rn_op 114 42 = some (.iload 7, 2, 0, 0, 0) := by decide +kernel
theorem op114_44 : rn_op 114 44 = some (.iadd, 1, 0, 0, 0) := by decide +kernel
theorem op114_45 : rn_op 114 45 = some (.iload 6, 2, 0, 0, 0) := by decide +kernel
theorem op114_47 : rn_op 114 47 = some (.iastore, 1, 0, 0, 0) := by decide +kernel
theorem op114_48 : rn_op 114 48 = some (.aload_n 1, 1, 0, 0, 0) := by decide +kernel
theorem op114_49 : rn_op 114 49 = some (.iload 5, 2, 0, 0, 0) := by decide +kernel
theorem op114_51 : rn_op 114 51 = some (.iload 6, 2, 0, 0, 0) := by decide +kernel
theorem op114_53 : rn_op 114 53 = some (.aload_n 0, 1, 0, 0, 0) := by decide +kernel
theorem op114_54 : rn_op 114 54 = some (.getfield 9, 3, 3, 2, 3) := by decide +kernel
theorem op114_57 : rn_op 114 57 = some (.iload_n 3, 1, 0, 0, 0) := by decide +kernel
theorem op114_58 : rn_op 114 58 = some (.iload 7, 2, 0, 0, 0) := by decide +kernel
theorem op114_60 : rn_op 114 60 = some (.iadd, 1, 0, 0, 0) := by decide +kernel
theorem op114_61 : rn_op 114 61 = some (.iaload, 1, 0, 0, 0) := by decide +kernel
theorem op114_62 : rn_op 114 62 = some (.invokevirtual 52, 3, 51, 4, 1) := by decide +kernel
theorem op114_65 : rn_op 114 65 = some (.istore 5, 2, 0, 0, 0) := by decide +kernel
theorem op114_67 : rn_op 114 67 = some (.aload_n 1, 1, 0, 0, 0) := by decide +kernel
theorem op114_68 : rn_op 114 68 = some (.iload 6, 2, 0, 0, 0) := by decide +kernel
theorem op114_70 : rn_op 114 70 = some (.invokevirtual 56, 3, 52, 2, 1) := by decide +kernel
theorem op114_73 : rn_op 114 73 = some (.istore 6, 2, 0, 0, 0) := by decide +kernel
theorem op114_75 : rn_op 114 75 = some (.iinc 7 1, 3, 0, 0, 0) := by decide +kernel
theorem op114_78 : rn_op 114 78 = some (.goto (-50), 3, 0, 0, 0) := by decide +kernel
theorem op114_81 : rn_op 114 81 = some (.iload 5, 2, 0, 0, 0) := by decide +kernel
theorem op114_83 : rn_op 114 83 = some (.invokestatic 60, 3, 53, 1, 0) := by decide +kernel
theorem op114_86 : rn_op 114 86 = some (.istore 7, 2, 0, 0, 0) := by decide +kernel
theorem op114_88 : rn_op 114 88 = some (.iconst 0, 1, 0, 0, 0) := by decide +kernel
theorem op114_89 : rn_op 114 89 = some (.istore 8, 2, 0, 0, 0) := by decide +kernel
theorem op114_91 : rn_op 114 91 = some (.iload 8, 2, 0, 0, 0) := by decide +kernel
theorem op114_93 : rn_op 114 93 = some (.aload_n 1, 1, 0, 0, 0) := by decide +kernel
theorem op114_94 : rn_op 114 94 = some (.getfield 49, 3, 1, 1, 0) := by decide +kernel
theorem op114_97 : rn_op 114 97 = some (.if_icmp .ge 20, 3, 0, 0, 0) := by decide +kernel
theorem op114_100 : rn_op 114 100 = some (.aload_n 0, 1, 0, 0, 0) := by decide +kernel
theorem op114_101 : rn_op 114 101 = some (.getfield 18, 3, 3, 4, 3) := by decide +kernel
theorem op114_104 : rn_op 114 104 = some (.iload_n 3, 1, 0, 0, 0) := by decide +kernel
theorem op114_105 : rn_op 114 105 = some (.iload 8, 2, 0, 0, 0) := by decide +kernel
theorem op114_107 : rn_op 114 107 = some (.iadd, 1, 0, 0, 0) := by decide +kernel
theorem op114_108 : rn_op 114 108 = some (.iload 7, 2, 0, 0, 0) := by decide +kernel
theorem op114_110 : rn_op 114 110 = some (.iastore, 1, 0, 0, 0) := by decide +kernel
theorem op114_111 : rn_op 114 111 = some (.iinc 8 1, 3, 0, 0, 0) := by decide +kernel
theorem op114_114 : rn_op 114 114 = some (.goto (-23), 3, 0, 0, 0) := by decide +kernel
theorem op114_117 : rn_op 114 117 = some (.aload_n 1, 1, 0, 0, 0) := by decide +kernel
theorem op114_118 : rn_op 114 118 = some (.getfield 63, 3, 1, 6, 0) := by decide +kernel
theorem op114_121 : rn_op 114 121 = some (.ifCond .ne 8, 3, 0, 0, 0) := by decide +kernel
theorem op114_124 : rn_op 114 124 = some (.iload 7, 2, 0, 0, 0) := by decide +kernel
theorem op114_126 : rn_op 114 126 = some (.goto 8, 3, 0, 0, 0) := by decide +kernel
theorem op114_129 : rn_op 114 129 = some (.aload_n 1, 1, 0, 0, 0) := by decide +kernel
theorem op114_130 : rn_op 114 130 = some (.iload_n 2, 1, 0, 0, 0) := by decide +kernel
theorem op114_131 : rn_op 114 131 = some (.invokevirtual 56, 3, 52, 2, 1) := by decide +kernel
theorem op114_134 : rn_op 114 134 = some (.istore_n 2, 1, 0, 0, 0) := by decide +kernel
theorem op114_135 : rn_op 114 135 = some (.iload_n 3, 1, 0, 0, 0) := by decide +kernel
theorem op114_136 : rn_op 114 136 = some (.aload_n 1, 1, 0, 0, 0) := by decide +kernel
theorem op114_137 : rn_op 114 137 = some (.getfield 49, 3, 1, 1, 0) := by decide +kernel
theorem op114_140 : rn_op 114 140 = some (.iadd, 1, 0, 0, 0) := by decide +kernel
theorem op114_141 : rn_op 114 141 = some (.istore_n 3, 1, 0, 0, 0) := by decide +kernel
theorem op114_142 : rn_op 114 142 = some (.iinc 4 1, 3, 0, 0, 0) := by decide +kernel
theorem op114_145 : rn_op 114 145 = some (.goto (-135), 3, 0, 0, 0) := by decide +kernel
theorem op114_148 : rn_op 114 148 = some (.return_, 1, 0, 0, 0) := by decide +kernel
def ro_seat_l28 (q0 : Nat) (q1 : Nat) (a2 : Int32) (a3 : Int32) (a4 : Int32) : Nat → Int32 → Int32 → Int32 → rn_Mem → Option (Int32 × rn_Mem)
  | 0, _, _, _, _ => none
  | n + 1, a5, a6, a7, m =>
    if a7 < (m.1 q1 1) then
      if rn_in (a3 + a7) 12 = true then
        (some (rm_i m (q0 + 2) (a3 + a7).toNatClampNeg a6)).bind fun (m4 : rn_Mem) =>
        if rn_in (a3 + a7) 12 = true then
          (ga_join n q1 a5 a6 (m4.1 (q0 + 1) (a3 + a7).toNatClampNeg) m4).bind fun (r8, m7) =>
          (ga_next n q1 a6 m7).bind fun (r11, m10) =>
          (some (a7 + 1)).bind fun (x13 : Int32) =>
          ro_seat_l28 q0 q1 a2 a3 a4 n r8 r11 x13 m10
        else none
      else none
    else
      some (a5, m)
def ro_seat_l91 (q0 : Nat) (q1 : Nat) (a2 : Int32) (a3 : Int32) (a4 : Int32) (a7 : Int32) : Nat → Int32 → rn_Mem → Option (rn_Mem)
  | 0, _, _ => none
  | n + 1, a8, m =>
    if a8 < (m.1 q1 1) then
      if rn_in (a3 + a8) 12 = true then
        (some (rm_i m (q0 + 3) (a3 + a8).toNatClampNeg a7)).bind fun (m24 : rn_Mem) =>
        (some (a8 + 1)).bind fun (x26 : Int32) =>
        ro_seat_l91 q0 q1 a2 a3 a4 a7 n x26 m24
      else none
    else
      some m
def ro_seat_l10 (q0 : Nat) (q1 : Nat) : Nat → Int32 → Int32 → Int32 → rn_Mem → Option (rn_Mem)
  | 0, _, _, _, _ => none
  | n + 1, a2, a3, a4, m =>
    if a4 < (m.1 q1 2) then
      (ro_seat_l28 q0 q1 a2 a3 a4 n (-1) a2 0 m).bind fun (x15, m14) =>
      (ga_winnerOf n x15 m14).bind fun (r20, m19) =>
      (ro_seat_l91 q0 q1 a2 a3 a4 r20 n 0 m19).bind fun m27 =>
      (show Option (Int32 × rn_Mem) from
        if (m27.1 q1 6) = 0 then
          some (r20, m27)
        else
          (ga_next n q1 a2 m27).bind fun (r33, m32) =>
          some (r33, m32)).bind fun (x40, m41) =>
      (some (a3 + (m41.1 q1 1))).bind fun (x42 : Int32) =>
      (some (a4 + 1)).bind fun (x43 : Int32) =>
      ro_seat_l10 q0 q1 n x40 x42 x43 m41
    else
      some m
def ro_seat (n : Nat) (q0 : Nat) (q1 : Nat) (m : rn_Mem) : Option (rn_Mem) :=
  (some (m.1 q0 1)).bind fun (x1 : Int32) =>
  (ro_seat_l10 q0 q1 n x1 0 0 m).bind fun m47 =>
  some m47
set_option maxHeartbeats 4000000 in
set_option maxRecDepth 20000 in
theorem ro_seat_l28_ok (xs : List Int32) {d : Nat} (hd : 1 ≤ d + 1) {q0 : Nat} {q1 : Nat} {a2 : Int32} {a3 : Int32} {a4 : Int32} {r : Option Value} {τ : rn_H} {out : Int32 × rn_Mem} (hr : ∀ (z5 : Int32) (mO : rn_Mem), out = (z5, mO) → ∀ (o6 o7 o8 : Option Value), rn_R xs (d + 1) 114 81 [some (.ref q0), some (.ref q1), some (.int a2), some (.int a3), some (.int a4), some (.int z5), o6, o7, o8] [] (rn_SH, mO) r τ) : ∀ (n : Nat) (a5 : Int32) (a6 : Int32) (a7 : Int32) (o8 : Option Value) (m : rn_Mem), sA_Row q0 → sA_Game q1 → ro_seat_l28 q0 q1 a2 a3 a4 n a5 a6 a7 m = some out → rn_R xs (d + 1) 114 28 [some (.ref q0), some (.ref q1), some (.int a2), some (.int a3), some (.int a4), some (.int a5), some (.int a6), some (.int a7), o8] [] (rn_SH, m) r τ := by
  intro n
  induction n with
  | zero =>
    intro _ _ _ _ _ _ _ h
    cases h
  | succ n ih =>
    intro a5 a6 a7 o8 m hq0 hq1 h
    unfold ro_seat_l28 at h
    try dsimp only at h
    refine rx_p (L2 := [some (.ref q0), some (.ref q1), some (.int a2), some (.int a3), some (.int a4), some (.int a5), some (.int a6), some (.int a7), o8]) (S2 := [.int a7]) (pc2 := 30) op114_28 rfl rfl ?_
    refine rx_p (L2 := [some (.ref q0), some (.ref q1), some (.int a2), some (.int a3), some (.int a4), some (.int a5), some (.int a6), some (.int a7), o8]) (S2 := [.ref q1, .int a7]) (pc2 := 31) op114_30 rfl rfl ?_
    refine rx_gf (v := .int (m.1 q1 1)) (pc2 := 34) op114_31 hq1 rfl rfl rfl ?_
    refine ry_ic_ge (tgt := 81) (pc2 := 37) op114_34 (by decide) (by decide) rfl (fun b3 => ?_) (fun b3 => ?_)
    · have h := (if_pos b3).symm.trans h
      refine rx_p (L2 := [some (.ref q0), some (.ref q1), some (.int a2), some (.int a3), some (.int a4), some (.int a5), some (.int a6), some (.int a7), o8]) (S2 := [.ref q0]) (pc2 := 38) op114_37 rfl rfl ?_
      refine rx_gf (v := .ref (q0 + 2)) (pc2 := 41) op114_38 (hq0.1) rfl rfl rfl ?_
      refine rx_p (L2 := [some (.ref q0), some (.ref q1), some (.int a2), some (.int a3), some (.int a4), some (.int a5), some (.int a6), some (.int a7), o8]) (S2 := [.int a3, .ref (q0 + 2)]) (pc2 := 42) op114_41 rfl rfl ?_
      refine rx_p (L2 := [some (.ref q0), some (.ref q1), some (.int a2), some (.int a3), some (.int a4), some (.int a5), some (.int a6), some (.int a7), o8]) (S2 := [.int a7, .int a3, .ref (q0 + 2)]) (pc2 := 44) op114_42 rfl rfl ?_
      refine rx_p (L2 := [some (.ref q0), some (.ref q1), some (.int a2), some (.int a3), some (.int a4), some (.int a5), some (.int a6), some (.int a7), o8]) (S2 := [.int (a3 + a7), .ref (q0 + 2)]) (pc2 := 45) op114_44 rfl rfl ?_
      refine rx_p (L2 := [some (.ref q0), some (.ref q1), some (.int a2), some (.int a3), some (.int a4), some (.int a5), some (.int a6), some (.int a7), o8]) (S2 := [.int a6, .int (a3 + a7), .ref (q0 + 2)]) (pc2 := 47) op114_45 rfl rfl ?_
      obtain ⟨k5, h⟩ := rq_chk h
      obtain ⟨m4, em4, h⟩ := rq_bv h
      refine rx_is (m2 := m4) (pc2 := 48) op114_47 (hq0.2.2.1) k5 rfl em4 rfl ?_
      refine rx_p (L2 := [some (.ref q0), some (.ref q1), some (.int a2), some (.int a3), some (.int a4), some (.int a5), some (.int a6), some (.int a7), o8]) (S2 := [.ref q1]) (pc2 := 49) op114_48 rfl rfl ?_
      refine rx_p (L2 := [some (.ref q0), some (.ref q1), some (.int a2), some (.int a3), some (.int a4), some (.int a5), some (.int a6), some (.int a7), o8]) (S2 := [.int a5, .ref q1]) (pc2 := 51) op114_49 rfl rfl ?_
      refine rx_p (L2 := [some (.ref q0), some (.ref q1), some (.int a2), some (.int a3), some (.int a4), some (.int a5), some (.int a6), some (.int a7), o8]) (S2 := [.int a6, .int a5, .ref q1]) (pc2 := 53) op114_51 rfl rfl ?_
      refine rx_p (L2 := [some (.ref q0), some (.ref q1), some (.int a2), some (.int a3), some (.int a4), some (.int a5), some (.int a6), some (.int a7), o8]) (S2 := [.ref q0, .int a6, .int a5, .ref q1]) (pc2 := 54) op114_53 rfl rfl ?_
      refine rx_gf (v := .ref (q0 + 1)) (pc2 := 57) op114_54 (hq0.1) rfl rfl rfl ?_
      refine rx_p (L2 := [some (.ref q0), some (.ref q1), some (.int a2), some (.int a3), some (.int a4), some (.int a5), some (.int a6), some (.int a7), o8]) (S2 := [.int a3, .ref (q0 + 1), .int a6, .int a5, .ref q1]) (pc2 := 58) op114_57 rfl rfl ?_
      refine rx_p (L2 := [some (.ref q0), some (.ref q1), some (.int a2), some (.int a3), some (.int a4), some (.int a5), some (.int a6), some (.int a7), o8]) (S2 := [.int a7, .int a3, .ref (q0 + 1), .int a6, .int a5, .ref q1]) (pc2 := 60) op114_58 rfl rfl ?_
      refine rx_p (L2 := [some (.ref q0), some (.ref q1), some (.int a2), some (.int a3), some (.int a4), some (.int a5), some (.int a6), some (.int a7), o8]) (S2 := [.int (a3 + a7), .ref (q0 + 1), .int a6, .int a5, .ref q1]) (pc2 := 61) op114_60 rfl rfl ?_
      obtain ⟨k6, h⟩ := rq_chk h
      refine rx_ia (pc2 := 62) op114_61 (rn_shlt (hq0.2.1)) (hq0.2.1) k6 rfl rfl ?_
      obtain ⟨⟨r8, m7⟩, f9, h⟩ := rq_bind h
      try dsimp only at h
      refine ry_iv (p := q1) (vs := [.int a5, .int a6, .int (m4.1 (q0 + 1) (a3 + a7).toNatClampNeg)]) (T := []) (pc2 := 65) op114_62 ms_51 (by decide) rfl rfl (Nat.le_of_ble_eq_true rfl) (Nat.le_of_ble_eq_true rfl) hq1 (ga_join_ok xs (by omega) hq1 f9) rfl ?_
      show rn_R _ _ _ _ _ [.int r8] _ _ _
      refine rx_s (L2 := [some (.ref q0), some (.ref q1), some (.int a2), some (.int a3), some (.int a4), some (.int r8), some (.int a6), some (.int a7), o8]) (pc2 := 67) op114_65 rfl rfl rfl ?_
      refine rx_p (L2 := [some (.ref q0), some (.ref q1), some (.int a2), some (.int a3), some (.int a4), some (.int r8), some (.int a6), some (.int a7), o8]) (S2 := [.ref q1]) (pc2 := 68) op114_67 rfl rfl ?_
      refine rx_p (L2 := [some (.ref q0), some (.ref q1), some (.int a2), some (.int a3), some (.int a4), some (.int r8), some (.int a6), some (.int a7), o8]) (S2 := [.int a6, .ref q1]) (pc2 := 70) op114_68 rfl rfl ?_
      obtain ⟨⟨r11, m10⟩, f12, h⟩ := rq_bind h
      try dsimp only at h
      refine ry_iv (p := q1) (vs := [.int a6]) (T := []) (pc2 := 73) op114_70 ms_52 (by decide) rfl rfl (Nat.le_of_ble_eq_true rfl) (Nat.le_of_ble_eq_true rfl) hq1 (ga_next_ok xs (by omega) hq1 f12) rfl ?_
      show rn_R _ _ _ _ _ [.int r11] _ _ _
      refine rx_s (L2 := [some (.ref q0), some (.ref q1), some (.int a2), some (.int a3), some (.int a4), some (.int r8), some (.int r11), some (.int a7), o8]) (pc2 := 75) op114_73 rfl rfl rfl ?_
      obtain ⟨x13, ex13, h⟩ := rq_bv h
      refine rx_inc (w := 1) (v := x13) (L2 := [some (.ref q0), some (.ref q1), some (.int a2), some (.int a3), some (.int a4), some (.int r8), some (.int r11), some (.int x13), o8]) (pc2 := 78) op114_75 rfl (by decide) ex13 rfl rfl ?_
      refine ry_go (tgt := 28) op114_78 (by decide) (by decide) ?_
      exact ih _ _ _ _ _ hq0 hq1 h
    · have h := (if_neg b3).symm.trans h
      cases h
      exact hr _ _ rfl _ _ _
set_option maxHeartbeats 4000000 in
set_option maxRecDepth 20000 in
theorem ro_seat_l91_ok (xs : List Int32) {d : Nat} (hd : 1 ≤ d + 1) {q0 : Nat} {q1 : Nat} {a2 : Int32} {a3 : Int32} {a4 : Int32} {a7 : Int32} {r : Option Value} {τ : rn_H} {out : rn_Mem} (hr : ∀ (mO : rn_Mem), out = mO → ∀ (o5 o6 o8 : Option Value), rn_R xs (d + 1) 114 117 [some (.ref q0), some (.ref q1), some (.int a2), some (.int a3), some (.int a4), o5, o6, some (.int a7), o8] [] (rn_SH, mO) r τ) : ∀ (n : Nat) (a8 : Int32) (o5 o6 : Option Value) (m : rn_Mem), sA_Row q0 → sA_Game q1 → ro_seat_l91 q0 q1 a2 a3 a4 a7 n a8 m = some out → rn_R xs (d + 1) 114 91 [some (.ref q0), some (.ref q1), some (.int a2), some (.int a3), some (.int a4), o5, o6, some (.int a7), some (.int a8)] [] (rn_SH, m) r τ := by
  intro n
  induction n with
  | zero =>
    intro _ _ _ _ _ _ h
    cases h
  | succ n ih =>
    intro a8 o5 o6 m hq0 hq1 h
    unfold ro_seat_l91 at h
    try dsimp only at h
    refine rx_p (L2 := [some (.ref q0), some (.ref q1), some (.int a2), some (.int a3), some (.int a4), o5, o6, some (.int a7), some (.int a8)]) (S2 := [.int a8]) (pc2 := 93) op114_91 rfl rfl ?_
    refine rx_p (L2 := [some (.ref q0), some (.ref q1), some (.int a2), some (.int a3), some (.int a4), o5, o6, some (.int a7), some (.int a8)]) (S2 := [.ref q1, .int a8]) (pc2 := 94) op114_93 rfl rfl ?_
    refine rx_gf (v := .int (m.1 q1 1)) (pc2 := 97) op114_94 hq1 rfl rfl rfl ?_
    refine ry_ic_ge (tgt := 117) (pc2 := 100) op114_97 (by decide) (by decide) rfl (fun b23 => ?_) (fun b23 => ?_)
    · have h := (if_pos b23).symm.trans h
      refine rx_p (L2 := [some (.ref q0), some (.ref q1), some (.int a2), some (.int a3), some (.int a4), o5, o6, some (.int a7), some (.int a8)]) (S2 := [.ref q0]) (pc2 := 101) op114_100 rfl rfl ?_
      refine rx_gf (v := .ref (q0 + 3)) (pc2 := 104) op114_101 (hq0.1) rfl rfl rfl ?_
      refine rx_p (L2 := [some (.ref q0), some (.ref q1), some (.int a2), some (.int a3), some (.int a4), o5, o6, some (.int a7), some (.int a8)]) (S2 := [.int a3, .ref (q0 + 3)]) (pc2 := 105) op114_104 rfl rfl ?_
      refine rx_p (L2 := [some (.ref q0), some (.ref q1), some (.int a2), some (.int a3), some (.int a4), o5, o6, some (.int a7), some (.int a8)]) (S2 := [.int a8, .int a3, .ref (q0 + 3)]) (pc2 := 107) op114_105 rfl rfl ?_
      refine rx_p (L2 := [some (.ref q0), some (.ref q1), some (.int a2), some (.int a3), some (.int a4), o5, o6, some (.int a7), some (.int a8)]) (S2 := [.int (a3 + a8), .ref (q0 + 3)]) (pc2 := 108) op114_107 rfl rfl ?_
      refine rx_p (L2 := [some (.ref q0), some (.ref q1), some (.int a2), some (.int a3), some (.int a4), o5, o6, some (.int a7), some (.int a8)]) (S2 := [.int a7, .int (a3 + a8), .ref (q0 + 3)]) (pc2 := 110) op114_108 rfl rfl ?_
      obtain ⟨k25, h⟩ := rq_chk h
      obtain ⟨m24, em24, h⟩ := rq_bv h
      refine rx_is (m2 := m24) (pc2 := 111) op114_110 (hq0.2.2.2.1) k25 rfl em24 rfl ?_
      obtain ⟨x26, ex26, h⟩ := rq_bv h
      refine rx_inc (w := 1) (v := x26) (L2 := [some (.ref q0), some (.ref q1), some (.int a2), some (.int a3), some (.int a4), o5, o6, some (.int a7), some (.int x26)]) (pc2 := 114) op114_111 rfl (by decide) ex26 rfl rfl ?_
      refine ry_go (tgt := 91) op114_114 (by decide) (by decide) ?_
      exact ih _ _ _ _ hq0 hq1 h
    · have h := (if_neg b23).symm.trans h
      cases h
      exact hr _ rfl _ _ _
set_option maxHeartbeats 4000000 in
set_option maxRecDepth 20000 in
theorem ro_seat_l10_ok (xs : List Int32) {d : Nat} (hd : 1 ≤ d + 1) {q0 : Nat} {q1 : Nat} {r : Option Value} {τ : rn_H} {out : rn_Mem} (hr : ∀ (mO : rn_Mem), out = mO → ∀ (o0 o1 o2 o3 o4 o5 o6 o7 o8 : Option Value), rn_R xs (d + 1) 114 148 [o0, o1, o2, o3, o4, o5, o6, o7, o8] [] (rn_SH, mO) r τ) : ∀ (n : Nat) (a2 : Int32) (a3 : Int32) (a4 : Int32) (o5 o6 o7 o8 : Option Value) (m : rn_Mem), sA_Row q0 → sA_Game q1 → ro_seat_l10 q0 q1 n a2 a3 a4 m = some out → rn_R xs (d + 1) 114 10 [some (.ref q0), some (.ref q1), some (.int a2), some (.int a3), some (.int a4), o5, o6, o7, o8] [] (rn_SH, m) r τ := by
  intro n
  induction n with
  | zero =>
    intro _ _ _ _ _ _ _ _ _ _ h
    cases h
  | succ n ih =>
    intro a2 a3 a4 o5 o6 o7 o8 m hq0 hq1 h
    unfold ro_seat_l10 at h
    try dsimp only at h
    refine rx_p (L2 := [some (.ref q0), some (.ref q1), some (.int a2), some (.int a3), some (.int a4), o5, o6, o7, o8]) (S2 := [.int a4]) (pc2 := 12) op114_10 rfl rfl ?_
    refine rx_p (L2 := [some (.ref q0), some (.ref q1), some (.int a2), some (.int a3), some (.int a4), o5, o6, o7, o8]) (S2 := [.ref q1, .int a4]) (pc2 := 13) op114_12 rfl rfl ?_
    refine rx_gf (v := .int (m.1 q1 2)) (pc2 := 16) op114_13 hq1 rfl rfl rfl ?_
    refine ry_ic_ge (tgt := 148) (pc2 := 19) op114_16 (by decide) (by decide) rfl (fun b2 => ?_) (fun b2 => ?_)
    · have h := (if_pos b2).symm.trans h
      refine rx_ic (v := (-1)) (pc2 := 20) op114_19 (by decide) rfl ?_
      refine rx_s (L2 := [some (.ref q0), some (.ref q1), some (.int a2), some (.int a3), some (.int a4), some (.int (-1)), o6, o7, o8]) (pc2 := 22) op114_20 rfl rfl rfl ?_
      refine rx_p (L2 := [some (.ref q0), some (.ref q1), some (.int a2), some (.int a3), some (.int a4), some (.int (-1)), o6, o7, o8]) (S2 := [.int a2]) (pc2 := 23) op114_22 rfl rfl ?_
      refine rx_s (L2 := [some (.ref q0), some (.ref q1), some (.int a2), some (.int a3), some (.int a4), some (.int (-1)), some (.int a2), o7, o8]) (pc2 := 25) op114_23 rfl rfl rfl ?_
      refine rx_ic (v := 0) (pc2 := 26) op114_25 (by decide) rfl ?_
      refine rx_s (L2 := [some (.ref q0), some (.ref q1), some (.int a2), some (.int a3), some (.int a4), some (.int (-1)), some (.int a2), some (.int 0), o8]) (pc2 := 28) op114_26 rfl rfl rfl ?_
      obtain ⟨wf46, f46, h⟩ := rq_bind h
      refine ro_seat_l28_ok xs hd (fun x15 m14 eq => ?_) _ _ _ _ _ _ hq0 hq1 f46
      subst eq
      try dsimp only at h
      intro o16 o17 o18
      refine rx_p (L2 := [some (.ref q0), some (.ref q1), some (.int a2), some (.int a3), some (.int a4), some (.int x15), o16, o17, o18]) (S2 := [.int x15]) (pc2 := 83) op114_81 rfl rfl ?_
      obtain ⟨⟨r20, m19⟩, f21, h⟩ := rq_bind h
      try dsimp only at h
      refine ry_is (vs := [.int x15]) (T := []) (pc2 := 86) op114_83 (by decide) ms_53 (by decide) rfl rfl (Nat.le_of_ble_eq_true rfl) (Nat.le_of_ble_eq_true rfl) (ga_winnerOf_ok xs (by omega)  f21) rfl ?_
      show rn_R _ _ _ _ _ [.int r20] _ _ _
      refine rx_sd (v := r20) (j := 6) (pc2 := 88) op114_86 rfl rfl (Nat.le_of_ble_eq_true rfl) rfl (fun o22 => ?_)
      show rn_R _ _ _ _ [some (.ref q0), some (.ref q1), some (.int a2), some (.int a3), some (.int a4), some (.int x15), o22, some (.int r20), o18] _ _ _ _
      refine rx_ic (v := 0) (pc2 := 89) op114_88 (by decide) rfl ?_
      refine rx_s (L2 := [some (.ref q0), some (.ref q1), some (.int a2), some (.int a3), some (.int a4), some (.int x15), o22, some (.int r20), some (.int 0)]) (pc2 := 91) op114_89 rfl rfl rfl ?_
      obtain ⟨m27, f45, h⟩ := rq_bind h
      refine ro_seat_l91_ok xs hd (fun m0 eq => ?_) _ _ _ _ _ hq0 hq1 f45
      subst eq
      try dsimp only at h
      intro o28 o29 o30
      refine rx_p (L2 := [some (.ref q0), some (.ref q1), some (.int a2), some (.int a3), some (.int a4), o28, o29, some (.int r20), o30]) (S2 := [.ref q1]) (pc2 := 118) op114_117 rfl rfl ?_
      refine rx_gf (v := .int (m27.1 q1 6)) (pc2 := 121) op114_118 hq1 rfl rfl rfl ?_
      obtain ⟨⟨x40, m41⟩, gc44, h⟩ := rq_bind h
      try dsimp only at h
      have c44 : ∀ (o35 o36 o37 o38 o39 : Option Value), rn_R xs (d + 1) 114 134 [some (.ref q0), some (.ref q1), o35, some (.int a3), some (.int a4), o36, o37, o38, o39] [.int x40] (rn_SH, m41) r τ := by
        intro o35 o36 o37 o38 o39
        refine rx_s (L2 := [some (.ref q0), some (.ref q1), some (.int x40), some (.int a3), some (.int a4), o36, o37, o38, o39]) (pc2 := 135) op114_134 rfl rfl rfl ?_
        refine rx_p (L2 := [some (.ref q0), some (.ref q1), some (.int x40), some (.int a3), some (.int a4), o36, o37, o38, o39]) (S2 := [.int a3]) (pc2 := 136) op114_135 rfl rfl ?_
        refine rx_p (L2 := [some (.ref q0), some (.ref q1), some (.int x40), some (.int a3), some (.int a4), o36, o37, o38, o39]) (S2 := [.ref q1, .int a3]) (pc2 := 137) op114_136 rfl rfl ?_
        refine rx_gf (v := .int (m41.1 q1 1)) (pc2 := 140) op114_137 hq1 rfl rfl rfl ?_
        refine rx_p (L2 := [some (.ref q0), some (.ref q1), some (.int x40), some (.int a3), some (.int a4), o36, o37, o38, o39]) (S2 := [.int (a3 + (m41.1 q1 1))]) (pc2 := 141) op114_140 rfl rfl ?_
        obtain ⟨x42, ex42, h⟩ := rq_bv h
        refine rx_s (v := x42) (L2 := [some (.ref q0), some (.ref q1), some (.int x40), some (.int x42), some (.int a4), o36, o37, o38, o39]) (pc2 := 142) op114_141 ex42 rfl rfl ?_
        obtain ⟨x43, ex43, h⟩ := rq_bv h
        refine rx_inc (w := 1) (v := x43) (L2 := [some (.ref q0), some (.ref q1), some (.int x40), some (.int x42), some (.int x43), o36, o37, o38, o39]) (pc2 := 145) op114_142 rfl (by decide) ex43 rfl rfl ?_
        refine ry_go (tgt := 10) op114_145 (by decide) (by decide) ?_
        exact ih _ _ _ _ _ _ _ _ hq0 hq1 h
      refine ry_if_ne (tgt := 129) (pc2 := 124) op114_121 (by decide) (by decide) rfl (fun b31 => ?_) (fun b31 => ?_)
      · have gc44 := (if_pos b31).symm.trans gc44
        refine rx_p (L2 := [some (.ref q0), some (.ref q1), some (.int a2), some (.int a3), some (.int a4), o28, o29, some (.int r20), o30]) (S2 := [.int r20]) (pc2 := 126) op114_124 rfl rfl ?_
        refine ry_go (tgt := 134) op114_126 (by decide) (by decide) ?_
        cases gc44
        exact c44 _ _ _ _ _
      · have gc44 := (if_neg b31).symm.trans gc44
        refine rx_p (L2 := [some (.ref q0), some (.ref q1), some (.int a2), some (.int a3), some (.int a4), o28, o29, some (.int r20), o30]) (S2 := [.ref q1]) (pc2 := 130) op114_129 rfl rfl ?_
        refine rx_p (L2 := [some (.ref q0), some (.ref q1), some (.int a2), some (.int a3), some (.int a4), o28, o29, some (.int r20), o30]) (S2 := [.int a2, .ref q1]) (pc2 := 131) op114_130 rfl rfl ?_
        obtain ⟨⟨r33, m32⟩, f34, gc44⟩ := rq_bind gc44
        try dsimp only at gc44
        refine ry_iv (p := q1) (vs := [.int a2]) (T := []) (pc2 := 134) op114_131 ms_52 (by decide) rfl rfl (Nat.le_of_ble_eq_true rfl) (Nat.le_of_ble_eq_true rfl) hq1 (ga_next_ok xs (by omega) hq1 f34) rfl ?_
        show rn_R _ _ _ _ _ [.int r33] _ _ _
        cases gc44
        exact c44 _ _ _ _ _
    · have h := (if_neg b2).symm.trans h
      cases h
      exact hr _ rfl _ _ _ _ _ _ _ _ _
set_option maxHeartbeats 4000000 in
set_option maxRecDepth 20000 in
theorem ro_seat_ok (xs : List Int32) {d : Nat} (hd : 1 ≤ d) {n : Nat} {q0 : Nat} {q1 : Nat} {m mO : rn_Mem} (hq0 : sA_Row q0) (hq1 : sA_Game q1) (h : ro_seat n q0 q1 m = some mO) : rn_R xs d 114 0 (rn_ent 9 [.ref q0, .ref q1]) [] (rn_SH, m) none (rn_SH, mO) := by
  obtain ⟨d, rfl⟩ : ∃ e, d = e + 1 := ⟨d - 1, by omega⟩
  unfold ro_seat at h
  show rn_R xs (d + 1) 114 0 [some (.ref q0), some (.ref q1), none, none, none, none, none, none, none] [] (rn_SH, m) none (rn_SH, mO)
  refine rx_p (L2 := [some (.ref q0), some (.ref q1), none, none, none, none, none, none, none]) (S2 := [.ref q0]) (pc2 := 1) op114_0 rfl rfl ?_
  refine rx_gf (v := .int (m.1 q0 1)) (pc2 := 4) op114_1 (hq0.1) rfl rfl rfl ?_
  obtain ⟨x1, ex1, h⟩ := rq_bv h
  refine rx_s (v := x1) (L2 := [some (.ref q0), some (.ref q1), some (.int x1), none, none, none, none, none, none]) (pc2 := 5) op114_4 ex1 rfl rfl ?_
  refine rx_ic (v := 0) (pc2 := 6) op114_5 (by decide) rfl ?_
  refine rx_s (L2 := [some (.ref q0), some (.ref q1), some (.int x1), some (.int 0), none, none, none, none, none]) (pc2 := 7) op114_6 rfl rfl rfl ?_
  refine rx_ic (v := 0) (pc2 := 8) op114_7 (by decide) rfl ?_
  refine rx_s (L2 := [some (.ref q0), some (.ref q1), some (.int x1), some (.int 0), some (.int 0), none, none, none, none]) (pc2 := 10) op114_8 rfl rfl rfl ?_
  obtain ⟨m47, f57, h⟩ := rq_bind h
  refine ro_seat_l10_ok xs hd (fun m0 eq => ?_) _ _ _ _ _ _ _ _ _ hq0 hq1 f57
  subst eq
  try dsimp only at h
  intro o48 o49 o50 o51 o52 o53 o54 o55 o56
  obtain rfl := Option.some.inj h
  exact ry_rv op114_148 ms_114 rfl
/-! ju_deal -/
theorem op116_0 : rn_op 116 0 = some (.iconst 0, 1, 0, 0, 0) := by decide +kernel
theorem op116_1 : rn_op 116 1 = some (.istore 4, 2, 0, 0, 0) := by decide +kernel
theorem op116_3 : rn_op 116 3 = some (.iload 4, 2, 0, 0, 0) := by decide +kernel
theorem op116_5 : rn_op 116 5 = some (.iconst 4, 1, 0, 0, 0) := by decide +kernel
theorem op116_6 : rn_op 116 6 = some (.if_icmp .ge 17, 3, 0, 0, 0) := by decide +kernel
theorem op116_9 : rn_op 116 9 = some (.aload_n 0, 1, 0, 0, 0) := by decide +kernel
theorem op116_10 : rn_op 116 10 = some (.getfield 9, 3, 2, 0, 3) := by decide +kernel
theorem op116_13 : rn_op 116 13 = some (.iload 4, 2, 0, 0, 0) := by decide +kernel
theorem op116_15 : rn_op 116 15 = some (.iconst 0, 1, 0, 0, 0) := by decide +kernel
theorem op116_16 : rn_op 116 16 = some (.iastore, 1, 0, 0, 0) := by decide +kernel
theorem op116_17 : rn_op 116 17 = some (.iinc 4 1, 3, 0, 0, 0) := by decide +kernel
theorem op116_20 : rn_op 116 20 = some (.goto (-17), 3, 0, 0, 0) := by decide +kernel
theorem op116_23 : rn_op 116 23 = some (.iload_n 3, 1, 0, 0, 0) := by decide +kernel
theorem op116_24 : rn_op 116 24 = some (.istore 4, 2, 0, 0, 0) := by decide +kernel
theorem op116_26 : rn_op 116 26 = some (.iload 4, 2, 0, 0, 0) := by decide +kernel
theorem op116_28 : rn_op 116 28 = some (.aload_n 1, 1, 0, 0, 0) := by decide +kernel
theorem op116_29 : rn_op 116 29 = some (.invokevirtual 25, 3, 23, 1, 1) := by decide +kernel
theorem op116_32 : rn_op 116 32 = some (.if_icmp .ge 33, 3, 0, 0, 0) := by decide +kernel
theorem op116_35 : rn_op 116 35 = some (.aload_n 0, 1, 0, 0, 0) := by decide +kernel
theorem op116_36 : rn_op 116 36 = some (.getfield 9, 3, 2, 0, 3) := by decide +kernel
theorem op116_39 : rn_op 116 39 = some (.aload_n 2, 1, 0, 0, 0) := by decide +kernel
theorem op116_40 : rn_op 116 40 = some (.getfield 31, 3, 3, 3, 3) := by decide +kernel
theorem op116_43 : rn_op 116 43 = some (.iload 4, 2, 0, 0, 0) := by decide +kernel
theorem op116_45 : rn_op 116 45 = some (.iaload, 1, 0, 0, 0) := by decide +kernel
theorem op116_46 : rn_op 116 46 = some (.dup2, 1, 0, 0, 0) := by decide +kernel
theorem op116_47 : rn_op 116 47 = some (.iaload, 1, 0, 0, 0) := by decide +kernel
theorem op116_48 : rn_op 116 48 = some (.iconst 1, 1, 0, 0, 0) := by decide +kernel
theorem op116_49 : rn_op 116 49 = some (.aload_n 2, 1, 0, 0, 0) := by decide +kernel
theorem op116_50 : rn_op 116 50 = some (.getfield 36, 3, 3, 2, 3) := by decide +kernel
theorem op116_53 : rn_op 116 53 = some (.iload 4, 2, 0, 0, 0) := by decide +kernel
theorem op116_55 : rn_op 116 55 = some (.iaload, 1, 0, 0, 0) := by decide +kernel
theorem op116_56 : rn_op 116 56 = some (.ishl, 1, 0, 0, 0) := by decide +kernel
theorem op116_57 : rn_op 116 57 = some (.ior, 1, 0, 0, 0) := by decide +kernel
theorem op116_58 : rn_op 116 58 = some (.iastore, 1, 0, 0, 0) := by decide +kernel
theorem op116_59 : rn_op 116 59 = some (.iinc 4 1, 3, 0, 0, 0) := by decide +kernel
theorem op116_62 : rn_op 116 62 = some (.goto (-36), 3, 0, 0, 0) := by decide +kernel
theorem op116_65 : rn_op 116 65 = some (.return_, 1, 0, 0, 0) := by decide +kernel
def ju_deal_l3 (q1 : Nat) (q2 : Nat) (a3 : Int32) : Nat → Int32 → rn_Mem → Option (rn_Mem)
  | 0, _, _ => none
  | n + 1, a4, m =>
    if a4 < 4 then
      if rn_in a4 4 = true then
        (some (rm_i m 103 a4.toNatClampNeg 0)).bind fun (m2 : rn_Mem) =>
        (some (a4 + 1)).bind fun (x4 : Int32) =>
        ju_deal_l3 q1 q2 a3 n x4 m2
      else none
    else
      some m
def ju_deal_l26 (q1 : Nat) (q2 : Nat) : Nat → Int32 → rn_Mem → Option (rn_Mem)
  | 0, _, _ => none
  | n + 1, a4, m =>
    (ga_cards n q1 m).bind fun (r8, m7) =>
    if a4 < r8 then
      if rn_in a4 12 = true then
        if rn_in (m7.1 (q2 + 2) a4.toNatClampNeg) 4 = true then
          if rn_in a4 12 = true then
            if rn_in (m7.1 (q2 + 2) a4.toNatClampNeg) 4 = true then
              (some (rm_i m7 103 (m7.1 (q2 + 2) a4.toNatClampNeg).toNatClampNeg ((m7.1 103 (m7.1 (q2 + 2) a4.toNatClampNeg).toNatClampNeg) ||| ((1 : Int32) <<< ((m7.1 (q2 + 1) a4.toNatClampNeg) &&& 31))))).bind fun (m14 : rn_Mem) =>
              (some (a4 + 1)).bind fun (x16 : Int32) =>
              ju_deal_l26 q1 q2 n x16 m14
            else none
          else none
        else none
      else none
    else
      some m7
def ju_deal (n : Nat) (q1 : Nat) (q2 : Nat) (a3 : Int32) (m : rn_Mem) : Option (rn_Mem) :=
  (ju_deal_l3 q1 q2 a3 n 0 m).bind fun m5 =>
  (ju_deal_l26 q1 q2 n a3 m5).bind fun m18 =>
  some m18
set_option maxHeartbeats 4000000 in
set_option maxRecDepth 20000 in
theorem ju_deal_l3_ok (xs : List Int32) {d : Nat} (hd : 1 ≤ d + 1) {q1 : Nat} {q2 : Nat} {a3 : Int32} {r : Option Value} {τ : rn_H} {out : rn_Mem} (hr : ∀ (mO : rn_Mem), out = mO → ∀ (o4 : Option Value), rn_R xs (d + 1) 116 23 [some (.ref 102), some (.ref q1), some (.ref q2), some (.int a3), o4] [] (rn_SH, mO) r τ) : ∀ (n : Nat) (a4 : Int32) (m : rn_Mem), sA_Game q1 → sA_Row q2 → ju_deal_l3 q1 q2 a3 n a4 m = some out → rn_R xs (d + 1) 116 3 [some (.ref 102), some (.ref q1), some (.ref q2), some (.int a3), some (.int a4)] [] (rn_SH, m) r τ := by
  intro n
  induction n with
  | zero =>
    intro _ _ _ _ h
    cases h
  | succ n ih =>
    intro a4 m hq1 hq2 h
    unfold ju_deal_l3 at h
    try dsimp only at h
    refine rx_p (L2 := [some (.ref 102), some (.ref q1), some (.ref q2), some (.int a3), some (.int a4)]) (S2 := [.int a4]) (pc2 := 5) op116_3 rfl rfl ?_
    refine rx_ic (v := 4) (pc2 := 6) op116_5 (by decide) rfl ?_
    refine ry_ic_ge (tgt := 23) (pc2 := 9) op116_6 (by decide) (by decide) rfl (fun b1 => ?_) (fun b1 => ?_)
    · have h := (if_pos b1).symm.trans h
      refine rx_p (L2 := [some (.ref 102), some (.ref q1), some (.ref q2), some (.int a3), some (.int a4)]) (S2 := [.ref 102]) (pc2 := 10) op116_9 rfl rfl ?_
      refine rx_gf (v := .ref 103) (pc2 := 13) op116_10 sp_102 rfl rfl rfl ?_
      refine rx_p (L2 := [some (.ref 102), some (.ref q1), some (.ref q2), some (.int a3), some (.int a4)]) (S2 := [.int a4, .ref 103]) (pc2 := 15) op116_13 rfl rfl ?_
      refine rx_ic (v := 0) (pc2 := 16) op116_15 (by decide) rfl ?_
      obtain ⟨k3, h⟩ := rq_chk h
      obtain ⟨m2, em2, h⟩ := rq_bv h
      refine rx_is (m2 := m2) (pc2 := 17) op116_16 sp_103 k3 rfl em2 rfl ?_
      obtain ⟨x4, ex4, h⟩ := rq_bv h
      refine rx_inc (w := 1) (v := x4) (L2 := [some (.ref 102), some (.ref q1), some (.ref q2), some (.int a3), some (.int x4)]) (pc2 := 20) op116_17 rfl (by decide) ex4 rfl rfl ?_
      refine ry_go (tgt := 3) op116_20 (by decide) (by decide) ?_
      exact ih _ _ hq1 hq2 h
    · have h := (if_neg b1).symm.trans h
      cases h
      exact hr _ rfl _
set_option maxHeartbeats 4000000 in
set_option maxRecDepth 20000 in
theorem ju_deal_l26_ok (xs : List Int32) {d : Nat} (hd : 1 ≤ d + 1) {q1 : Nat} {q2 : Nat} {r : Option Value} {τ : rn_H} {out : rn_Mem} (hr : ∀ (mO : rn_Mem), out = mO → ∀ (o0 o1 o2 o3 o4 : Option Value), rn_R xs (d + 1) 116 65 [o0, o1, o2, o3, o4] [] (rn_SH, mO) r τ) : ∀ (n : Nat) (a4 : Int32) (o3 : Option Value) (m : rn_Mem), sA_Game q1 → sA_Row q2 → ju_deal_l26 q1 q2 n a4 m = some out → rn_R xs (d + 1) 116 26 [some (.ref 102), some (.ref q1), some (.ref q2), o3, some (.int a4)] [] (rn_SH, m) r τ := by
  intro n
  induction n with
  | zero =>
    intro _ _ _ _ _ h
    cases h
  | succ n ih =>
    intro a4 o3 m hq1 hq2 h
    unfold ju_deal_l26 at h
    try dsimp only at h
    refine rx_p (L2 := [some (.ref 102), some (.ref q1), some (.ref q2), o3, some (.int a4)]) (S2 := [.int a4]) (pc2 := 28) op116_26 rfl rfl ?_
    refine rx_p (L2 := [some (.ref 102), some (.ref q1), some (.ref q2), o3, some (.int a4)]) (S2 := [.ref q1, .int a4]) (pc2 := 29) op116_28 rfl rfl ?_
    obtain ⟨⟨r8, m7⟩, f9, h⟩ := rq_bind h
    try dsimp only at h
    refine ry_iv (p := q1) (vs := []) (T := [.int a4]) (pc2 := 32) op116_29 ms_23 (by decide) rfl rfl (Nat.le_of_ble_eq_true rfl) (Nat.le_of_ble_eq_true rfl) hq1 (ga_cards_ok xs (by omega) hq1 f9) rfl ?_
    show rn_R _ _ _ _ _ [.int r8, .int a4] _ _ _
    refine ry_ic_ge (tgt := 65) (pc2 := 35) op116_32 (by decide) (by decide) rfl (fun b10 => ?_) (fun b10 => ?_)
    · have h := (if_pos b10).symm.trans h
      refine rx_p (L2 := [some (.ref 102), some (.ref q1), some (.ref q2), o3, some (.int a4)]) (S2 := [.ref 102]) (pc2 := 36) op116_35 rfl rfl ?_
      refine rx_gf (v := .ref 103) (pc2 := 39) op116_36 sp_102 rfl rfl rfl ?_
      refine rx_p (L2 := [some (.ref 102), some (.ref q1), some (.ref q2), o3, some (.int a4)]) (S2 := [.ref q2, .ref 103]) (pc2 := 40) op116_39 rfl rfl ?_
      refine rx_gf (v := .ref (q2 + 2)) (pc2 := 43) op116_40 (hq2.1) rfl rfl rfl ?_
      refine rx_p (L2 := [some (.ref 102), some (.ref q1), some (.ref q2), o3, some (.int a4)]) (S2 := [.int a4, .ref (q2 + 2), .ref 103]) (pc2 := 45) op116_43 rfl rfl ?_
      obtain ⟨k11, h⟩ := rq_chk h
      refine rx_ia (pc2 := 46) op116_45 (rn_shlt (hq2.2.2.1)) (hq2.2.2.1) k11 rfl rfl ?_
      refine rx_p (L2 := [some (.ref 102), some (.ref q1), some (.ref q2), o3, some (.int a4)]) (S2 := [.int (m7.1 (q2 + 2) a4.toNatClampNeg), .ref 103, .int (m7.1 (q2 + 2) a4.toNatClampNeg), .ref 103]) (pc2 := 47) op116_46 rfl rfl ?_
      obtain ⟨k12, h⟩ := rq_chk h
      refine rx_ia (pc2 := 48) op116_47 (rn_shlt sp_103) sp_103 k12 rfl rfl ?_
      refine rx_ic (v := 1) (pc2 := 49) op116_48 (by decide) rfl ?_
      refine rx_p (L2 := [some (.ref 102), some (.ref q1), some (.ref q2), o3, some (.int a4)]) (S2 := [.ref q2, .int 1, .int (m7.1 103 (m7.1 (q2 + 2) a4.toNatClampNeg).toNatClampNeg), .int (m7.1 (q2 + 2) a4.toNatClampNeg), .ref 103]) (pc2 := 50) op116_49 rfl rfl ?_
      refine rx_gf (v := .ref (q2 + 1)) (pc2 := 53) op116_50 (hq2.1) rfl rfl rfl ?_
      refine rx_p (L2 := [some (.ref 102), some (.ref q1), some (.ref q2), o3, some (.int a4)]) (S2 := [.int a4, .ref (q2 + 1), .int 1, .int (m7.1 103 (m7.1 (q2 + 2) a4.toNatClampNeg).toNatClampNeg), .int (m7.1 (q2 + 2) a4.toNatClampNeg), .ref 103]) (pc2 := 55) op116_53 rfl rfl ?_
      obtain ⟨k13, h⟩ := rq_chk h
      refine rx_ia (pc2 := 56) op116_55 (rn_shlt (hq2.2.1)) (hq2.2.1) k13 rfl rfl ?_
      refine rx_p (L2 := [some (.ref 102), some (.ref q1), some (.ref q2), o3, some (.int a4)]) (S2 := [.int ((1 : Int32) <<< ((m7.1 (q2 + 1) a4.toNatClampNeg) &&& 31)), .int (m7.1 103 (m7.1 (q2 + 2) a4.toNatClampNeg).toNatClampNeg), .int (m7.1 (q2 + 2) a4.toNatClampNeg), .ref 103]) (pc2 := 57) op116_56 rfl rfl ?_
      refine rx_p (L2 := [some (.ref 102), some (.ref q1), some (.ref q2), o3, some (.int a4)]) (S2 := [.int ((m7.1 103 (m7.1 (q2 + 2) a4.toNatClampNeg).toNatClampNeg) ||| ((1 : Int32) <<< ((m7.1 (q2 + 1) a4.toNatClampNeg) &&& 31))), .int (m7.1 (q2 + 2) a4.toNatClampNeg), .ref 103]) (pc2 := 58) op116_57 rfl rfl ?_
      obtain ⟨k15, h⟩ := rq_chk h
      obtain ⟨m14, em14, h⟩ := rq_bv h
      refine rx_is (m2 := m14) (pc2 := 59) op116_58 sp_103 k15 rfl em14 rfl ?_
      obtain ⟨x16, ex16, h⟩ := rq_bv h
      refine rx_incd (w := 1) (v := x16) (j := 3) (pc2 := 62) op116_59 rfl (by decide) ex16 rfl (fun o17 => ?_)
      show rn_R _ _ _ _ [some (.ref 102), some (.ref q1), some (.ref q2), o17, some (.int x16)] _ _ _ _
      refine ry_go (tgt := 26) op116_62 (by decide) (by decide) ?_
      exact ih _ _ _ hq1 hq2 h
    · have h := (if_neg b10).symm.trans h
      cases h
      exact hr _ rfl _ _ _ _ _
set_option maxHeartbeats 4000000 in
set_option maxRecDepth 20000 in
theorem ju_deal_ok (xs : List Int32) {d : Nat} (hd : 1 ≤ d) {n : Nat} {q1 : Nat} {q2 : Nat} {a3 : Int32} {m mO : rn_Mem} (hq1 : sA_Game q1) (hq2 : sA_Row q2) (h : ju_deal n q1 q2 a3 m = some mO) : rn_R xs d 116 0 (rn_ent 5 [.ref 102, .ref q1, .ref q2, .int a3]) [] (rn_SH, m) none (rn_SH, mO) := by
  obtain ⟨d, rfl⟩ : ∃ e, d = e + 1 := ⟨d - 1, by omega⟩
  unfold ju_deal at h
  show rn_R xs (d + 1) 116 0 [some (.ref 102), some (.ref q1), some (.ref q2), some (.int a3), none] [] (rn_SH, m) none (rn_SH, mO)
  refine rx_ic (v := 0) (pc2 := 1) op116_0 (by decide) rfl ?_
  refine rx_s (L2 := [some (.ref 102), some (.ref q1), some (.ref q2), some (.int a3), some (.int 0)]) (pc2 := 3) op116_1 rfl rfl rfl ?_
  obtain ⟨m5, f25, h⟩ := rq_bind h
  refine ju_deal_l3_ok xs hd (fun m0 eq => ?_) _ _ _ hq1 hq2 f25
  subst eq
  try dsimp only at h
  intro o6
  refine rx_p (L2 := [some (.ref 102), some (.ref q1), some (.ref q2), some (.int a3), o6]) (S2 := [.int a3]) (pc2 := 24) op116_23 rfl rfl ?_
  refine rx_s (L2 := [some (.ref 102), some (.ref q1), some (.ref q2), some (.int a3), some (.int a3)]) (pc2 := 26) op116_24 rfl rfl rfl ?_
  obtain ⟨m18, f24, h⟩ := rq_bind h
  refine ju_deal_l26_ok xs hd (fun m0 eq => ?_) _ _ _ _ hq1 hq2 f24
  subst eq
  try dsimp only at h
  intro o19 o20 o21 o22 o23
  obtain rfl := Option.some.inj h
  exact ry_rv op116_65 ms_116 rfl
/-! ga_suitOf -/
theorem op118_0 : rn_op 118 0 = some (.iload_n 0, 1, 0, 0, 0) := by decide +kernel
theorem op118_1 : rn_op 118 1 = some (.iconst 3, 1, 0, 0, 0) := by decide +kernel
theorem op118_2 : rn_op 118 2 = some (.iand, 1, 0, 0, 0) := by decide +kernel
theorem op118_3 : rn_op 118 3 = some (.ireturn, 1, 0, 0, 0) := by decide +kernel
def ga_suitOf (n : Nat) (a0 : Int32) (m : rn_Mem) : Option (Int32 × rn_Mem) :=
  some (a0 &&& 3, m)
set_option maxHeartbeats 4000000 in
set_option maxRecDepth 20000 in
theorem ga_suitOf_ok (xs : List Int32) {d : Nat} (hd : 0 ≤ d) {n : Nat} {a0 : Int32} {m mO : rn_Mem} {rO : Int32} (h : ga_suitOf n a0 m = some (rO, mO)) : rn_R xs d 118 0 (rn_ent 1 [.int a0]) [] (rn_SH, m) (some (.int rO)) (rn_SH, mO) := by
  unfold ga_suitOf at h
  show rn_R xs d 118 0 [some (.int a0)] [] (rn_SH, m) (some (.int rO)) (rn_SH, mO)
  refine rx_p (L2 := [some (.int a0)]) (S2 := [.int a0]) (pc2 := 1) op118_0 rfl rfl ?_
  refine rx_ic (v := 3) (pc2 := 2) op118_1 (by decide) rfl ?_
  refine rx_p (L2 := [some (.int a0)]) (S2 := [.int (a0 &&& 3)]) (pc2 := 3) op118_2 rfl rfl ?_
  obtain ⟨rfl, rfl⟩ := rq_ret h
  exact ry_ri op118_3 ms_118 rfl
/-! ga_lets -/
theorem op117_0 : rn_op 117 0 = some (.iload_n 1, 1, 0, 0, 0) := by decide +kernel
theorem op117_1 : rn_op 117 1 = some (.iconst 2, 1, 0, 0, 0) := by decide +kernel
theorem op117_2 : rn_op 117 2 = some (.ishr, 1, 0, 0, 0) := by decide +kernel
theorem op117_3 : rn_op 117 3 = some (.istore 4, 2, 0, 0, 0) := by decide +kernel
theorem op117_5 : rn_op 117 5 = some (.iload_n 2, 1, 0, 0, 0) := by decide +kernel
theorem op117_6 : rn_op 117 6 = some (.invokestatic 40, 3, 118, 1, 0) := by decide +kernel
theorem op117_9 : rn_op 117 9 = some (.istore 5, 2, 0, 0, 0) := by decide +kernel
theorem op117_11 : rn_op 117 11 = some (.iload_n 2, 1, 0, 0, 0) := by decide +kernel
theorem op117_12 : rn_op 117 12 = some (.ifCond .lt 18, 3, 0, 0, 0) := by decide +kernel
theorem op117_15 : rn_op 117 15 = some (.aload_n 0, 1, 0, 0, 0) := by decide +kernel
theorem op117_16 : rn_op 117 16 = some (.getfield 27, 3, 1, 5, 0) := by decide +kernel
theorem op117_19 : rn_op 117 19 = some (.iconst 1, 1, 0, 0, 0) := by decide +kernel
theorem op117_20 : rn_op 117 20 = some (.if_icmp .eq 10, 3, 0, 0, 0) := by decide +kernel
theorem op117_23 : rn_op 117 23 = some (.iload 4, 2, 0, 0, 0) := by decide +kernel
theorem op117_25 : rn_op 117 25 = some (.iload 5, 2, 0, 0, 0) := by decide +kernel
theorem op117_27 : rn_op 117 27 = some (.if_icmp .ne 5, 3, 0, 0, 0) := by decide +kernel
theorem op117_30 : rn_op 117 30 = some (.iconst 1, 1, 0, 0, 0) := by decide +kernel
theorem op117_31 : rn_op 117 31 = some (.ireturn, 1, 0, 0, 0) := by decide +kernel
theorem op117_32 : rn_op 117 32 = some (.iload_n 3, 1, 0, 0, 0) := by decide +kernel
theorem op117_33 : rn_op 117 33 = some (.iconst 4, 1, 0, 0, 0) := by decide +kernel
theorem op117_34 : rn_op 117 34 = some (.iload 5, 2, 0, 0, 0) := by decide +kernel
theorem op117_36 : rn_op 117 36 = some (.imul, 1, 0, 0, 0) := by decide +kernel
theorem op117_37 : rn_op 117 37 = some (.ishr, 1, 0, 0, 0) := by decide +kernel
theorem op117_38 : rn_op 117 38 = some (.bipush 15, 2, 0, 0, 0) := by decide +kernel
theorem op117_40 : rn_op 117 40 = some (.iand, 1, 0, 0, 0) := by decide +kernel
theorem op117_41 : rn_op 117 41 = some (.ifCond .eq 5, 3, 0, 0, 0) := by decide +kernel
theorem op117_44 : rn_op 117 44 = some (.iconst 0, 1, 0, 0, 0) := by decide +kernel
theorem op117_45 : rn_op 117 45 = some (.ireturn, 1, 0, 0, 0) := by decide +kernel
theorem op117_46 : rn_op 117 46 = some (.aload_n 0, 1, 0, 0, 0) := by decide +kernel
theorem op117_47 : rn_op 117 47 = some (.getfield 27, 3, 1, 5, 0) := by decide +kernel
theorem op117_50 : rn_op 117 50 = some (.iconst 2, 1, 0, 0, 0) := by decide +kernel
theorem op117_51 : rn_op 117 51 = some (.if_icmp .ne 33, 3, 0, 0, 0) := by decide +kernel
theorem op117_54 : rn_op 117 54 = some (.aload_n 0, 1, 0, 0, 0) := by decide +kernel
theorem op117_55 : rn_op 117 55 = some (.getfield 18, 3, 1, 4, 0) := by decide +kernel
theorem op117_58 : rn_op 117 58 = some (.ifCond .lt 26, 3, 0, 0, 0) := by decide +kernel
theorem op117_61 : rn_op 117 61 = some (.iload 4, 2, 0, 0, 0) := by decide +kernel
theorem op117_63 : rn_op 117 63 = some (.aload_n 0, 1, 0, 0, 0) := by decide +kernel
theorem op117_64 : rn_op 117 64 = some (.getfield 18, 3, 1, 4, 0) := by decide +kernel
theorem op117_67 : rn_op 117 67 = some (.if_icmp .eq 17, 3, 0, 0, 0) := by decide +kernel
theorem op117_70 : rn_op 117 70 = some (.iload_n 3, 1, 0, 0, 0) := by decide +kernel
theorem op117_71 : rn_op 117 71 = some (.iconst 4, 1, 0, 0, 0) := by decide +kernel
theorem op117_72 : rn_op 117 72 = some (.aload_n 0, 1, 0, 0, 0) := by decide +kernel
theorem op117_73 : rn_op 117 73 = some (.getfield 18, 3, 1, 4, 0) := by decide +kernel
theorem op117_76 : rn_op 117 76 = some (.imul, 1, 0, 0, 0) := by decide +kernel
theorem op117_77 : rn_op 117 77 = some (.ishr, 1, 0, 0, 0) := by decide +kernel
theorem op117_78 : rn_op 117 78 = some (.bipush 15, 2, 0, 0, 0) := by decide +kernel
theorem op117_80 : rn_op 117 80 = some (.iand, 1, 0, 0, 0) := by decide +kernel
theorem op117_81 : rn_op 117 81 = some (.ifCond .ne 7, 3, 0, 0, 0) := by decide +kernel
theorem op117_84 : rn_op 117 84 = some (.iconst 1, 1, 0, 0, 0) := by decide +kernel
theorem op117_85 : rn_op 117 85 = some (.goto 4, 3, 0, 0, 0) := by decide +kernel
theorem op117_88 : rn_op 117 88 = some (.iconst 0, 1, 0, 0, 0) := by decide +kernel
theorem op117_89 : rn_op 117 89 = some (.ireturn, 1, 0, 0, 0) := by decide +kernel
def ga_lets (n : Nat) (q0 : Nat) (a1 : Int32) (a2 : Int32) (a3 : Int32) (m : rn_Mem) : Option (Int32 × rn_Mem) :=
  (some (a1 >>> (2 &&& 31))).bind fun (x1 : Int32) =>
  (ga_suitOf n a2 m).bind fun (r3, m2) =>
  if a2 < 0 then
    some (1, m2)
  else
    if (m2.1 q0 5) = 1 then
      some (1, m2)
    else
      if x1 = r3 then
        some (1, m2)
      else
        if ((a3 >>> (((4 : Int32) * r3) &&& 31)) &&& 15) = 0 then
          if (m2.1 q0 5) = 2 then
            if (m2.1 q0 4) < 0 then
              some (1, m2)
            else
              if x1 = (m2.1 q0 4) then
                some (1, m2)
              else
                if ((a3 >>> (((4 : Int32) * (m2.1 q0 4)) &&& 31)) &&& 15) = 0 then
                  some (1, m2)
                else
                  some (0, m2)
          else
            some (1, m2)
        else
          some (0, m2)
set_option maxHeartbeats 4000000 in
set_option maxRecDepth 20000 in
theorem ga_lets_ok (xs : List Int32) {d : Nat} (hd : 1 ≤ d) {n : Nat} {q0 : Nat} {a1 : Int32} {a2 : Int32} {a3 : Int32} {m mO : rn_Mem} {rO : Int32} (hq0 : sA_Game q0) (h : ga_lets n q0 a1 a2 a3 m = some (rO, mO)) : rn_R xs d 117 0 (rn_ent 6 [.ref q0, .int a1, .int a2, .int a3]) [] (rn_SH, m) (some (.int rO)) (rn_SH, mO) := by
  obtain ⟨d, rfl⟩ : ∃ e, d = e + 1 := ⟨d - 1, by omega⟩
  unfold ga_lets at h
  show rn_R xs (d + 1) 117 0 [some (.ref q0), some (.int a1), some (.int a2), some (.int a3), none, none] [] (rn_SH, m) (some (.int rO)) (rn_SH, mO)
  refine rx_p (L2 := [some (.ref q0), some (.int a1), some (.int a2), some (.int a3), none, none]) (S2 := [.int a1]) (pc2 := 1) op117_0 rfl rfl ?_
  refine rx_ic (v := 2) (pc2 := 2) op117_1 (by decide) rfl ?_
  refine rx_p (L2 := [some (.ref q0), some (.int a1), some (.int a2), some (.int a3), none, none]) (S2 := [.int (a1 >>> (2 &&& 31))]) (pc2 := 3) op117_2 rfl rfl ?_
  obtain ⟨x1, ex1, h⟩ := rq_bv h
  refine rx_s (v := x1) (L2 := [some (.ref q0), some (.int a1), some (.int a2), some (.int a3), some (.int x1), none]) (pc2 := 5) op117_3 ex1 rfl rfl ?_
  refine rx_p (L2 := [some (.ref q0), some (.int a1), some (.int a2), some (.int a3), some (.int x1), none]) (S2 := [.int a2]) (pc2 := 6) op117_5 rfl rfl ?_
  obtain ⟨⟨r3, m2⟩, f4, h⟩ := rq_bind h
  try dsimp only at h
  refine ry_is (vs := [.int a2]) (T := []) (pc2 := 9) op117_6 (by decide) ms_118 (by decide) rfl rfl (Nat.le_of_ble_eq_true rfl) (Nat.le_of_ble_eq_true rfl) (ga_suitOf_ok xs (by omega)  f4) rfl ?_
  show rn_R _ _ _ _ _ [.int r3] _ _ _
  refine rx_s (L2 := [some (.ref q0), some (.int a1), some (.int a2), some (.int a3), some (.int x1), some (.int r3)]) (pc2 := 11) op117_9 rfl rfl rfl ?_
  refine rx_p (L2 := [some (.ref q0), some (.int a1), some (.int a2), some (.int a3), some (.int x1), some (.int r3)]) (S2 := [.int a2]) (pc2 := 12) op117_11 rfl rfl ?_
  refine ry_if_lt (tgt := 30) (pc2 := 15) op117_12 (by decide) (by decide) rfl (fun b5 => ?_) (fun b5 => ?_)
  · have h := (if_pos b5).symm.trans h
    refine rx_ic (v := 1) (pc2 := 31) op117_30 (by decide) rfl ?_
    obtain ⟨rfl, rfl⟩ := rq_ret h
    exact ry_rz (x := 1) op117_31 ms_117 rfl (by decide)
  · have h := (if_neg b5).symm.trans h
    refine rx_p (L2 := [some (.ref q0), some (.int a1), some (.int a2), some (.int a3), some (.int x1), some (.int r3)]) (S2 := [.ref q0]) (pc2 := 16) op117_15 rfl rfl ?_
    refine rx_gf (v := .int (m2.1 q0 5)) (pc2 := 19) op117_16 hq0 rfl rfl rfl ?_
    refine rx_ic (v := 1) (pc2 := 20) op117_19 (by decide) rfl ?_
    refine ry_ic_eq (tgt := 30) (pc2 := 23) op117_20 (by decide) (by decide) rfl (fun b6 => ?_) (fun b6 => ?_)
    · have h := (if_pos b6).symm.trans h
      refine rx_ic (v := 1) (pc2 := 31) op117_30 (by decide) rfl ?_
      obtain ⟨rfl, rfl⟩ := rq_ret h
      exact ry_rz (x := 1) op117_31 ms_117 rfl (by decide)
    · have h := (if_neg b6).symm.trans h
      refine rx_p (L2 := [some (.ref q0), some (.int a1), some (.int a2), some (.int a3), some (.int x1), some (.int r3)]) (S2 := [.int x1]) (pc2 := 25) op117_23 rfl rfl ?_
      refine rx_p (L2 := [some (.ref q0), some (.int a1), some (.int a2), some (.int a3), some (.int x1), some (.int r3)]) (S2 := [.int r3, .int x1]) (pc2 := 27) op117_25 rfl rfl ?_
      refine ry_ic_ne (tgt := 32) (pc2 := 30) op117_27 (by decide) (by decide) rfl (fun b7 => ?_) (fun b7 => ?_)
      · have h := (if_pos b7).symm.trans h
        refine rx_ic (v := 1) (pc2 := 31) op117_30 (by decide) rfl ?_
        obtain ⟨rfl, rfl⟩ := rq_ret h
        exact ry_rz (x := 1) op117_31 ms_117 rfl (by decide)
      · have h := (if_neg b7).symm.trans h
        refine rx_p (L2 := [some (.ref q0), some (.int a1), some (.int a2), some (.int a3), some (.int x1), some (.int r3)]) (S2 := [.int a3]) (pc2 := 33) op117_32 rfl rfl ?_
        refine rx_ic (v := 4) (pc2 := 34) op117_33 (by decide) rfl ?_
        refine rx_p (L2 := [some (.ref q0), some (.int a1), some (.int a2), some (.int a3), some (.int x1), some (.int r3)]) (S2 := [.int r3, .int 4, .int a3]) (pc2 := 36) op117_34 rfl rfl ?_
        refine rx_p (L2 := [some (.ref q0), some (.int a1), some (.int a2), some (.int a3), some (.int x1), some (.int r3)]) (S2 := [.int ((4 : Int32) * r3), .int a3]) (pc2 := 37) op117_36 rfl rfl ?_
        refine rx_p (L2 := [some (.ref q0), some (.int a1), some (.int a2), some (.int a3), some (.int x1), some (.int r3)]) (S2 := [.int (a3 >>> (((4 : Int32) * r3) &&& 31))]) (pc2 := 38) op117_37 rfl rfl ?_
        refine rx_bp (v := 15) (pc2 := 40) op117_38 (by decide) rfl ?_
        refine rx_p (L2 := [some (.ref q0), some (.int a1), some (.int a2), some (.int a3), some (.int x1), some (.int r3)]) (S2 := [.int ((a3 >>> (((4 : Int32) * r3) &&& 31)) &&& 15)]) (pc2 := 41) op117_40 rfl rfl ?_
        refine ry_if_eq (tgt := 46) (pc2 := 44) op117_41 (by decide) (by decide) rfl (fun b8 => ?_) (fun b8 => ?_)
        · have h := (if_pos b8).symm.trans h
          refine rx_p (L2 := [some (.ref q0), some (.int a1), some (.int a2), some (.int a3), some (.int x1), some (.int r3)]) (S2 := [.ref q0]) (pc2 := 47) op117_46 rfl rfl ?_
          refine rx_gf (v := .int (m2.1 q0 5)) (pc2 := 50) op117_47 hq0 rfl rfl rfl ?_
          refine rx_ic (v := 2) (pc2 := 51) op117_50 (by decide) rfl ?_
          refine ry_ic_ne (tgt := 84) (pc2 := 54) op117_51 (by decide) (by decide) rfl (fun b9 => ?_) (fun b9 => ?_)
          · have h := (if_pos b9).symm.trans h
            refine rx_p (L2 := [some (.ref q0), some (.int a1), some (.int a2), some (.int a3), some (.int x1), some (.int r3)]) (S2 := [.ref q0]) (pc2 := 55) op117_54 rfl rfl ?_
            refine rx_gf (v := .int (m2.1 q0 4)) (pc2 := 58) op117_55 hq0 rfl rfl rfl ?_
            refine ry_if_lt (tgt := 84) (pc2 := 61) op117_58 (by decide) (by decide) rfl (fun b10 => ?_) (fun b10 => ?_)
            · have h := (if_pos b10).symm.trans h
              refine rx_ic (v := 1) (pc2 := 85) op117_84 (by decide) rfl ?_
              refine ry_go (tgt := 89) op117_85 (by decide) (by decide) ?_
              obtain ⟨rfl, rfl⟩ := rq_ret h
              exact ry_rz (x := 1) op117_89 ms_117 rfl (by decide)
            · have h := (if_neg b10).symm.trans h
              refine rx_p (L2 := [some (.ref q0), some (.int a1), some (.int a2), some (.int a3), some (.int x1), some (.int r3)]) (S2 := [.int x1]) (pc2 := 63) op117_61 rfl rfl ?_
              refine rx_p (L2 := [some (.ref q0), some (.int a1), some (.int a2), some (.int a3), some (.int x1), some (.int r3)]) (S2 := [.ref q0, .int x1]) (pc2 := 64) op117_63 rfl rfl ?_
              refine rx_gf (v := .int (m2.1 q0 4)) (pc2 := 67) op117_64 hq0 rfl rfl rfl ?_
              refine ry_ic_eq (tgt := 84) (pc2 := 70) op117_67 (by decide) (by decide) rfl (fun b11 => ?_) (fun b11 => ?_)
              · have h := (if_pos b11).symm.trans h
                refine rx_ic (v := 1) (pc2 := 85) op117_84 (by decide) rfl ?_
                refine ry_go (tgt := 89) op117_85 (by decide) (by decide) ?_
                obtain ⟨rfl, rfl⟩ := rq_ret h
                exact ry_rz (x := 1) op117_89 ms_117 rfl (by decide)
              · have h := (if_neg b11).symm.trans h
                refine rx_p (L2 := [some (.ref q0), some (.int a1), some (.int a2), some (.int a3), some (.int x1), some (.int r3)]) (S2 := [.int a3]) (pc2 := 71) op117_70 rfl rfl ?_
                refine rx_ic (v := 4) (pc2 := 72) op117_71 (by decide) rfl ?_
                refine rx_p (L2 := [some (.ref q0), some (.int a1), some (.int a2), some (.int a3), some (.int x1), some (.int r3)]) (S2 := [.ref q0, .int 4, .int a3]) (pc2 := 73) op117_72 rfl rfl ?_
                refine rx_gf (v := .int (m2.1 q0 4)) (pc2 := 76) op117_73 hq0 rfl rfl rfl ?_
                refine rx_p (L2 := [some (.ref q0), some (.int a1), some (.int a2), some (.int a3), some (.int x1), some (.int r3)]) (S2 := [.int ((4 : Int32) * (m2.1 q0 4)), .int a3]) (pc2 := 77) op117_76 rfl rfl ?_
                refine rx_p (L2 := [some (.ref q0), some (.int a1), some (.int a2), some (.int a3), some (.int x1), some (.int r3)]) (S2 := [.int (a3 >>> (((4 : Int32) * (m2.1 q0 4)) &&& 31))]) (pc2 := 78) op117_77 rfl rfl ?_
                refine rx_bp (v := 15) (pc2 := 80) op117_78 (by decide) rfl ?_
                refine rx_p (L2 := [some (.ref q0), some (.int a1), some (.int a2), some (.int a3), some (.int x1), some (.int r3)]) (S2 := [.int ((a3 >>> (((4 : Int32) * (m2.1 q0 4)) &&& 31)) &&& 15)]) (pc2 := 81) op117_80 rfl rfl ?_
                refine ry_if_ne (tgt := 88) (pc2 := 84) op117_81 (by decide) (by decide) rfl (fun b12 => ?_) (fun b12 => ?_)
                · have h := (if_pos b12).symm.trans h
                  refine rx_ic (v := 1) (pc2 := 85) op117_84 (by decide) rfl ?_
                  refine ry_go (tgt := 89) op117_85 (by decide) (by decide) ?_
                  obtain ⟨rfl, rfl⟩ := rq_ret h
                  exact ry_rz (x := 1) op117_89 ms_117 rfl (by decide)
                · have h := (if_neg b12).symm.trans h
                  refine rx_ic (v := 0) (pc2 := 89) op117_88 (by decide) rfl ?_
                  obtain ⟨rfl, rfl⟩ := rq_ret h
                  exact ry_rz (x := 0) op117_89 ms_117 rfl (by decide)
          · have h := (if_neg b9).symm.trans h
            refine rx_ic (v := 1) (pc2 := 85) op117_84 (by decide) rfl ?_
            refine ry_go (tgt := 89) op117_85 (by decide) (by decide) ?_
            obtain ⟨rfl, rfl⟩ := rq_ret h
            exact ry_rz (x := 1) op117_89 ms_117 rfl (by decide)
        · have h := (if_neg b8).symm.trans h
          refine rx_ic (v := 0) (pc2 := 45) op117_44 (by decide) rfl ?_
          obtain ⟨rfl, rfl⟩ := rq_ret h
          exact ry_rz (x := 0) op117_45 ms_117 rfl (by decide)
/-! ju_soFar -/
theorem op119_0 : rn_op 119 0 = some (.iconst (-1), 1, 0, 0, 0) := by decide +kernel
theorem op119_1 : rn_op 119 1 = some (.istore_n 3, 1, 0, 0, 0) := by decide +kernel
theorem op119_2 : rn_op 119 2 = some (.iload_n 2, 1, 0, 0, 0) := by decide +kernel
theorem op119_3 : rn_op 119 3 = some (.iload_n 2, 1, 0, 0, 0) := by decide +kernel
theorem op119_4 : rn_op 119 4 = some (.aload_n 0, 1, 0, 0, 0) := by decide +kernel
theorem op119_5 : rn_op 119 5 = some (.getfield 46, 3, 1, 1, 0) := by decide +kernel
theorem op119_8 : rn_op 119 8 = some (.irem, 1, 0, 0, 0) := by decide +kernel
theorem op119_9 : rn_op 119 9 = some (.isub, 1, 0, 0, 0) := by decide +kernel
theorem op119_10 : rn_op 119 10 = some (.istore 4, 2, 0, 0, 0) := by decide +kernel
theorem op119_12 : rn_op 119 12 = some (.iload 4, 2, 0, 0, 0) := by decide +kernel
theorem op119_14 : rn_op 119 14 = some (.iload_n 2, 1, 0, 0, 0) := by decide +kernel
theorem op119_15 : rn_op 119 15 = some (.if_icmp .ge 29, 3, 0, 0, 0) := by decide +kernel
theorem op119_18 : rn_op 119 18 = some (.aload_n 0, 1, 0, 0, 0) := by decide +kernel
theorem op119_19 : rn_op 119 19 = some (.iload_n 3, 1, 0, 0, 0) := by decide +kernel
theorem op119_20 : rn_op 119 20 = some (.aload_n 1, 1, 0, 0, 0) := by decide +kernel
theorem op119_21 : rn_op 119 21 = some (.getfield 31, 3, 3, 3, 3) := by decide +kernel
theorem op119_24 : rn_op 119 24 = some (.iload 4, 2, 0, 0, 0) := by decide +kernel
theorem op119_26 : rn_op 119 26 = some (.iaload, 1, 0, 0, 0) := by decide +kernel
theorem op119_27 : rn_op 119 27 = some (.aload_n 1, 1, 0, 0, 0) := by decide +kernel
theorem op119_28 : rn_op 119 28 = some (.getfield 36, 3, 3, 2, 3) := by decide +kernel
theorem op119_31 : rn_op 119 31 = some (.iload 4, 2, 0, 0, 0) := by decide +kernel
theorem op119_33 : rn_op 119 33 = some (.iaload, 1, 0, 0, 0) := by decide +kernel
theorem op119_34 : rn_op 119 34 = some (.invokevirtual 50, 3, 51, 4, 1) := by decide +kernel
theorem op119_37 : rn_op 119 37 = some (.istore_n 3, 1, 0, 0, 0) := by decide +kernel
theorem op119_38 : rn_op 119 38 = some (.iinc 4 1, 3, 0, 0, 0) := by decide +kernel
theorem op119_41 : rn_op 119 41 = some (.goto (-29), 3, 0, 0, 0) := by decide +kernel
theorem op119_44 : rn_op 119 44 = some (.iload_n 3, 1, 0, 0, 0) := by decide +kernel
theorem op119_45 : rn_op 119 45 = some (.ireturn, 1, 0, 0, 0) := by decide +kernel
def ju_soFar_l12 (q0 : Nat) (q1 : Nat) (a2 : Int32) : Nat → Int32 → Int32 → rn_Mem → Option (Int32 × rn_Mem)
  | 0, _, _, _ => none
  | n + 1, a3, a4, m =>
    if a4 < a2 then
      if rn_in a4 12 = true then
        if rn_in a4 12 = true then
          (ga_join n q0 a3 (m.1 (q1 + 2) a4.toNatClampNeg) (m.1 (q1 + 1) a4.toNatClampNeg) m).bind fun (r7, m6) =>
          (some (a4 + 1)).bind fun (x9 : Int32) =>
          ju_soFar_l12 q0 q1 a2 n r7 x9 m6
        else none
      else none
    else
      some (a3, m)
def ju_soFar (n : Nat) (q0 : Nat) (q1 : Nat) (a2 : Int32) (m : rn_Mem) : Option (Int32 × rn_Mem) :=
  if ¬ (m.1 q0 1) = 0 then
    (some (a2 - (rn_rem a2 (m.1 q0 1)))).bind fun (x2 : Int32) =>
    (ju_soFar_l12 q0 q1 a2 n (-1) x2 m).bind fun (x14, m10) =>
    some (x14, m10)
  else none
set_option maxHeartbeats 4000000 in
set_option maxRecDepth 20000 in
theorem ju_soFar_l12_ok (xs : List Int32) {d : Nat} (hd : 1 ≤ d + 1) {q0 : Nat} {q1 : Nat} {a2 : Int32} {r : Option Value} {τ : rn_H} {out : Int32 × rn_Mem} (hr : ∀ (z3 : Int32) (mO : rn_Mem), out = (z3, mO) → ∀ (o0 o1 o2 o4 : Option Value), rn_R xs (d + 1) 119 44 [o0, o1, o2, some (.int z3), o4] [] (rn_SH, mO) r τ) : ∀ (n : Nat) (a3 : Int32) (a4 : Int32) (m : rn_Mem), sA_Game q0 → sA_Row q1 → ju_soFar_l12 q0 q1 a2 n a3 a4 m = some out → rn_R xs (d + 1) 119 12 [some (.ref q0), some (.ref q1), some (.int a2), some (.int a3), some (.int a4)] [] (rn_SH, m) r τ := by
  intro n
  induction n with
  | zero =>
    intro _ _ _ _ _ h
    cases h
  | succ n ih =>
    intro a3 a4 m hq0 hq1 h
    unfold ju_soFar_l12 at h
    try dsimp only at h
    refine rx_p (L2 := [some (.ref q0), some (.ref q1), some (.int a2), some (.int a3), some (.int a4)]) (S2 := [.int a4]) (pc2 := 14) op119_12 rfl rfl ?_
    refine rx_p (L2 := [some (.ref q0), some (.ref q1), some (.int a2), some (.int a3), some (.int a4)]) (S2 := [.int a2, .int a4]) (pc2 := 15) op119_14 rfl rfl ?_
    refine ry_ic_ge (tgt := 44) (pc2 := 18) op119_15 (by decide) (by decide) rfl (fun b3 => ?_) (fun b3 => ?_)
    · have h := (if_pos b3).symm.trans h
      refine rx_p (L2 := [some (.ref q0), some (.ref q1), some (.int a2), some (.int a3), some (.int a4)]) (S2 := [.ref q0]) (pc2 := 19) op119_18 rfl rfl ?_
      refine rx_p (L2 := [some (.ref q0), some (.ref q1), some (.int a2), some (.int a3), some (.int a4)]) (S2 := [.int a3, .ref q0]) (pc2 := 20) op119_19 rfl rfl ?_
      refine rx_p (L2 := [some (.ref q0), some (.ref q1), some (.int a2), some (.int a3), some (.int a4)]) (S2 := [.ref q1, .int a3, .ref q0]) (pc2 := 21) op119_20 rfl rfl ?_
      refine rx_gf (v := .ref (q1 + 2)) (pc2 := 24) op119_21 (hq1.1) rfl rfl rfl ?_
      refine rx_p (L2 := [some (.ref q0), some (.ref q1), some (.int a2), some (.int a3), some (.int a4)]) (S2 := [.int a4, .ref (q1 + 2), .int a3, .ref q0]) (pc2 := 26) op119_24 rfl rfl ?_
      obtain ⟨k4, h⟩ := rq_chk h
      refine rx_ia (pc2 := 27) op119_26 (rn_shlt (hq1.2.2.1)) (hq1.2.2.1) k4 rfl rfl ?_
      refine rx_p (L2 := [some (.ref q0), some (.ref q1), some (.int a2), some (.int a3), some (.int a4)]) (S2 := [.ref q1, .int (m.1 (q1 + 2) a4.toNatClampNeg), .int a3, .ref q0]) (pc2 := 28) op119_27 rfl rfl ?_
      refine rx_gf (v := .ref (q1 + 1)) (pc2 := 31) op119_28 (hq1.1) rfl rfl rfl ?_
      refine rx_p (L2 := [some (.ref q0), some (.ref q1), some (.int a2), some (.int a3), some (.int a4)]) (S2 := [.int a4, .ref (q1 + 1), .int (m.1 (q1 + 2) a4.toNatClampNeg), .int a3, .ref q0]) (pc2 := 33) op119_31 rfl rfl ?_
      obtain ⟨k5, h⟩ := rq_chk h
      refine rx_ia (pc2 := 34) op119_33 (rn_shlt (hq1.2.1)) (hq1.2.1) k5 rfl rfl ?_
      obtain ⟨⟨r7, m6⟩, f8, h⟩ := rq_bind h
      try dsimp only at h
      refine ry_iv (p := q0) (vs := [.int a3, .int (m.1 (q1 + 2) a4.toNatClampNeg), .int (m.1 (q1 + 1) a4.toNatClampNeg)]) (T := []) (pc2 := 37) op119_34 ms_51 (by decide) rfl rfl (Nat.le_of_ble_eq_true rfl) (Nat.le_of_ble_eq_true rfl) hq0 (ga_join_ok xs (by omega) hq0 f8) rfl ?_
      show rn_R _ _ _ _ _ [.int r7] _ _ _
      refine rx_s (L2 := [some (.ref q0), some (.ref q1), some (.int a2), some (.int r7), some (.int a4)]) (pc2 := 38) op119_37 rfl rfl rfl ?_
      obtain ⟨x9, ex9, h⟩ := rq_bv h
      refine rx_inc (w := 1) (v := x9) (L2 := [some (.ref q0), some (.ref q1), some (.int a2), some (.int r7), some (.int x9)]) (pc2 := 41) op119_38 rfl (by decide) ex9 rfl rfl ?_
      refine ry_go (tgt := 12) op119_41 (by decide) (by decide) ?_
      exact ih _ _ _ hq0 hq1 h
    · have h := (if_neg b3).symm.trans h
      cases h
      exact hr _ _ rfl _ _ _ _
set_option maxHeartbeats 4000000 in
set_option maxRecDepth 20000 in
theorem ju_soFar_ok (xs : List Int32) {d : Nat} (hd : 1 ≤ d) {n : Nat} {q0 : Nat} {q1 : Nat} {a2 : Int32} {m mO : rn_Mem} {rO : Int32} (hq0 : sA_Game q0) (hq1 : sA_Row q1) (h : ju_soFar n q0 q1 a2 m = some (rO, mO)) : rn_R xs d 119 0 (rn_ent 5 [.ref q0, .ref q1, .int a2]) [] (rn_SH, m) (some (.int rO)) (rn_SH, mO) := by
  obtain ⟨d, rfl⟩ : ∃ e, d = e + 1 := ⟨d - 1, by omega⟩
  unfold ju_soFar at h
  show rn_R xs (d + 1) 119 0 [some (.ref q0), some (.ref q1), some (.int a2), none, none] [] (rn_SH, m) (some (.int rO)) (rn_SH, mO)
  refine rx_ic (v := (-1)) (pc2 := 1) op119_0 (by decide) rfl ?_
  refine rx_s (L2 := [some (.ref q0), some (.ref q1), some (.int a2), some (.int (-1)), none]) (pc2 := 2) op119_1 rfl rfl rfl ?_
  refine rx_p (L2 := [some (.ref q0), some (.ref q1), some (.int a2), some (.int (-1)), none]) (S2 := [.int a2]) (pc2 := 3) op119_2 rfl rfl ?_
  refine rx_p (L2 := [some (.ref q0), some (.ref q1), some (.int a2), some (.int (-1)), none]) (S2 := [.int a2, .int a2]) (pc2 := 4) op119_3 rfl rfl ?_
  refine rx_p (L2 := [some (.ref q0), some (.ref q1), some (.int a2), some (.int (-1)), none]) (S2 := [.ref q0, .int a2, .int a2]) (pc2 := 5) op119_4 rfl rfl ?_
  refine rx_gf (v := .int (m.1 q0 1)) (pc2 := 8) op119_5 hq0 rfl rfl rfl ?_
  obtain ⟨k1, h⟩ := rq_chk h
  refine rx_rem (v := rn_rem a2 (m.1 q0 1)) (pc2 := 9) op119_8 k1 rfl rfl ?_
  refine rx_p (L2 := [some (.ref q0), some (.ref q1), some (.int a2), some (.int (-1)), none]) (S2 := [.int (a2 - (rn_rem a2 (m.1 q0 1)))]) (pc2 := 10) op119_9 rfl rfl ?_
  obtain ⟨x2, ex2, h⟩ := rq_bv h
  refine rx_s (v := x2) (L2 := [some (.ref q0), some (.ref q1), some (.int a2), some (.int (-1)), some (.int x2)]) (pc2 := 12) op119_10 ex2 rfl rfl ?_
  obtain ⟨wf16, f16, h⟩ := rq_bind h
  refine ju_soFar_l12_ok xs hd (fun x14 m10 eq => ?_) _ _ _ _ hq0 hq1 f16
  subst eq
  try dsimp only at h
  intro o11 o12 o13 o15
  refine rx_p (L2 := [o11, o12, o13, some (.int x14), o15]) (S2 := [.int x14]) (pc2 := 45) op119_44 rfl rfl ?_
  obtain ⟨rfl, rfl⟩ := rq_ret h
  exact ry_ri op119_45 ms_119 rfl
/-! ju_breach -/
theorem op115_0 : rn_op 115 0 = some (.aload_n 0, 1, 0, 0, 0) := by decide +kernel
theorem op115_1 : rn_op 115 1 = some (.aload_n 1, 1, 0, 0, 0) := by decide +kernel
theorem op115_2 : rn_op 115 2 = some (.aload_n 2, 1, 0, 0, 0) := by decide +kernel
theorem op115_3 : rn_op 115 3 = some (.iconst 0, 1, 0, 0, 0) := by decide +kernel
theorem op115_4 : rn_op 115 4 = some (.invokevirtual 21, 3, 116, 4, 2) := by decide +kernel
theorem op115_7 : rn_op 115 7 = some (.iconst (-1), 1, 0, 0, 0) := by decide +kernel
theorem op115_8 : rn_op 115 8 = some (.istore_n 3, 1, 0, 0, 0) := by decide +kernel
theorem op115_9 : rn_op 115 9 = some (.iconst 0, 1, 0, 0, 0) := by decide +kernel
theorem op115_10 : rn_op 115 10 = some (.istore 4, 2, 0, 0, 0) := by decide +kernel
theorem op115_12 : rn_op 115 12 = some (.iload 4, 2, 0, 0, 0) := by decide +kernel
theorem op115_14 : rn_op 115 14 = some (.aload_n 1, 1, 0, 0, 0) := by decide +kernel
theorem op115_15 : rn_op 115 15 = some (.invokevirtual 25, 3, 23, 1, 1) := by decide +kernel
theorem op115_18 : rn_op 115 18 = some (.if_icmp .ge 74, 3, 0, 0, 0) := by decide +kernel
theorem op115_21 : rn_op 115 21 = some (.aload_n 2, 1, 0, 0, 0) := by decide +kernel
theorem op115_22 : rn_op 115 22 = some (.getfield 31, 3, 3, 3, 3) := by decide +kernel
theorem op115_25 : rn_op 115 25 = some (.iload 4, 2, 0, 0, 0) := by decide +kernel
theorem op115_27 : rn_op 115 27 = some (.iaload, 1, 0, 0, 0) := by decide +kernel
theorem op115_28 : rn_op 115 28 = some (.istore 5, 2, 0, 0, 0) := by decide +kernel
theorem op115_30 : rn_op 115 30 = some (.aload_n 1, 1, 0, 0, 0) := by decide +kernel
theorem op115_31 : rn_op 115 31 = some (.aload_n 2, 1, 0, 0, 0) := by decide +kernel
theorem op115_32 : rn_op 115 32 = some (.getfield 36, 3, 3, 2, 3) := by decide +kernel
theorem op115_35 : rn_op 115 35 = some (.iload 4, 2, 0, 0, 0) := by decide +kernel
theorem op115_37 : rn_op 115 37 = some (.iaload, 1, 0, 0, 0) := by decide +kernel
theorem op115_38 : rn_op 115 38 = some (.iload_n 3, 1, 0, 0, 0) := by decide +kernel
theorem op115_39 : rn_op 115 39 = some (.aload_n 0, 1, 0, 0, 0) := by decide +kernel
theorem op115_40 : rn_op 115 40 = some (.getfield 9, 3, 2, 0, 3) := by decide +kernel
theorem op115_43 : rn_op 115 43 = some (.iload 5, 2, 0, 0, 0) := by decide +kernel
theorem op115_45 : rn_op 115 45 = some (.iaload, 1, 0, 0, 0) := by decide +kernel
theorem op115_46 : rn_op 115 46 = some (.invokevirtual 38, 3, 117, 4, 1) := by decide +kernel
theorem op115_49 : rn_op 115 49 = some (.ifCond .ne 6, 3, 0, 0, 0) := by decide +kernel
theorem op115_52 : rn_op 115 52 = some (.iload 4, 2, 0, 0, 0) := by decide +kernel
theorem op115_54 : rn_op 115 54 = some (.ireturn, 1, 0, 0, 0) := by decide +kernel
theorem op115_55 : rn_op 115 55 = some (.aload_n 0, 1, 0, 0, 0) := by decide +kernel
theorem op115_56 : rn_op 115 56 = some (.getfield 9, 3, 2, 0, 3) := by decide +kernel
theorem op115_59 : rn_op 115 59 = some (.iload 5, 2, 0, 0, 0) := by decide +kernel
theorem op115_61 : rn_op 115 61 = some (.dup2, 1, 0, 0, 0) := by decide +kernel
theorem op115_62 : rn_op 115 62 = some (.iaload, 1, 0, 0, 0) := by decide +kernel
theorem op115_63 : rn_op 115 63 = some (.iconst 1, 1, 0, 0, 0) := by decide +kernel
theorem op115_64 : rn_op 115 64 = some (.aload_n 2, 1, 0, 0, 0) := by decide +kernel
theorem op115_65 : rn_op 115 65 = some (.getfield 36, 3, 3, 2, 3) := by decide +kernel
theorem op115_68 : rn_op 115 68 = some (.iload 4, 2, 0, 0, 0) := by decide +kernel
theorem op115_70 : rn_op 115 70 = some (.iaload, 1, 0, 0, 0) := by decide +kernel
theorem op115_71 : rn_op 115 71 = some (.ishl, 1, 0, 0, 0) := by decide +kernel
theorem op115_72 : rn_op 115 72 = some (.iconst (-1), 1, 0, 0, 0) := by decide +kernel
theorem op115_73 : rn_op 115 73 = some (.ixor, 1, 0, 0, 0) := by decide +kernel
theorem op115_74 : rn_op 115 74 = some (.iand, 1, 0, 0, 0) := by decide +kernel
theorem op115_75 : rn_op 115 75 = some (.iastore, 1, 0, 0, 0) := by decide +kernel
theorem op115_76 : rn_op 115 76 = some (.aload_n 1, 1, 0, 0, 0) := by decide +kernel
theorem op115_77 : rn_op 115 77 = some (.aload_n 2, 1, 0, 0, 0) := by decide +kernel
theorem op115_78 : rn_op 115 78 = some (.iload 4, 2, 0, 0, 0) := by decide +kernel
theorem op115_80 : rn_op 115 80 = some (.iconst 1, 1, 0, 0, 0) := by decide +kernel
theorem op115_81 : rn_op 115 81 = some (.iadd, 1, 0, 0, 0) := by decide +kernel
theorem op115_82 : rn_op 115 82 = some (.invokestatic 42, 3, 119, 3, 0) := by decide +kernel
theorem op115_85 : rn_op 115 85 = some (.istore_n 3, 1, 0, 0, 0) := by decide +kernel
theorem op115_86 : rn_op 115 86 = some (.iinc 4 1, 3, 0, 0, 0) := by decide +kernel
theorem op115_89 : rn_op 115 89 = some (.goto (-77), 3, 0, 0, 0) := by decide +kernel
theorem op115_92 : rn_op 115 92 = some (.bipush (-4), 2, 0, 0, 0) := by decide +kernel
theorem op115_94 : rn_op 115 94 = some (.ireturn, 1, 0, 0, 0) := by decide +kernel
def ju_breach_l12 (q1 : Nat) (q2 : Nat) : Nat → Int32 → Int32 → rn_Mem → Option ((Int32 × rn_Mem) ⊕ (rn_Mem))
  | 0, _, _, _ => none
  | n + 1, a3, a4, m =>
    (ga_cards n q1 m).bind fun (r4, m3) =>
    if a4 < r4 then
      if rn_in a4 12 = true then
        (some (m3.1 (q2 + 2) a4.toNatClampNeg)).bind fun (x8 : Int32) =>
        if rn_in a4 12 = true then
          if rn_in x8 4 = true then
            (ga_lets n q1 (m3.1 (q2 + 1) a4.toNatClampNeg) a3 (m3.1 103 x8.toNatClampNeg) m3).bind fun (r12, m11) =>
            if r12 = 0 then
              some (.inl (a4, m11))
            else
              if rn_in x8 4 = true then
                if rn_in a4 12 = true then
                  if rn_in x8 4 = true then
                    (some (rm_i m11 103 x8.toNatClampNeg ((m11.1 103 x8.toNatClampNeg) &&& (((1 : Int32) <<< ((m11.1 (q2 + 1) a4.toNatClampNeg) &&& 31)) ^^^ (-1))))).bind fun (m17 : rn_Mem) =>
                    (ju_soFar n q1 q2 (a4 + 1) m17).bind fun (r20, m19) =>
                    (some (a4 + 1)).bind fun (x22 : Int32) =>
                    ju_breach_l12 q1 q2 n r20 x22 m19
                  else none
                else none
              else none
          else none
        else none
      else none
    else
      some (.inr m3)
def ju_breach (n : Nat) (q1 : Nat) (q2 : Nat) (m : rn_Mem) : Option (Int32 × rn_Mem) :=
  (ju_deal n q1 q2 0 m).bind fun m1 =>
  (ju_breach_l12 q1 q2 n (-1) 0 m1).bind fun q => match q with
  | .inl o => some o
  | .inr m23 =>
  some ((-4), m23)
set_option maxHeartbeats 4000000 in
set_option maxRecDepth 20000 in
theorem ju_breach_l12_ok (xs : List Int32) {d : Nat} (hd : 2 ≤ d + 1) {q1 : Nat} {q2 : Nat} {r : Option Value} {τ : rn_H} {out : (Int32 × rn_Mem) ⊕ (rn_Mem)} (hl : ∀ (rO : Int32) (mO : rn_Mem), out = .inl (rO, mO) → r = (some (.int rO)) ∧ τ = (rn_SH, mO)) (hr : ∀ (mO : rn_Mem), out = .inr mO → ∀ (o0 o1 o2 o3 o4 o5 : Option Value), rn_R xs (d + 1) 115 92 [o0, o1, o2, o3, o4, o5] [] (rn_SH, mO) r τ) : ∀ (n : Nat) (a3 : Int32) (a4 : Int32) (o5 : Option Value) (m : rn_Mem), sA_Game q1 → sA_Row q2 → ju_breach_l12 q1 q2 n a3 a4 m = some out → rn_R xs (d + 1) 115 12 [some (.ref 102), some (.ref q1), some (.ref q2), some (.int a3), some (.int a4), o5] [] (rn_SH, m) r τ := by
  intro n
  induction n with
  | zero =>
    intro _ _ _ _ _ _ h
    cases h
  | succ n ih =>
    intro a3 a4 o5 m hq1 hq2 h
    unfold ju_breach_l12 at h
    try dsimp only at h
    refine rx_p (L2 := [some (.ref 102), some (.ref q1), some (.ref q2), some (.int a3), some (.int a4), o5]) (S2 := [.int a4]) (pc2 := 14) op115_12 rfl rfl ?_
    refine rx_p (L2 := [some (.ref 102), some (.ref q1), some (.ref q2), some (.int a3), some (.int a4), o5]) (S2 := [.ref q1, .int a4]) (pc2 := 15) op115_14 rfl rfl ?_
    obtain ⟨⟨r4, m3⟩, f5, h⟩ := rq_bind h
    try dsimp only at h
    refine ry_iv (p := q1) (vs := []) (T := [.int a4]) (pc2 := 18) op115_15 ms_23 (by decide) rfl rfl (Nat.le_of_ble_eq_true rfl) (Nat.le_of_ble_eq_true rfl) hq1 (ga_cards_ok xs (by omega) hq1 f5) rfl ?_
    show rn_R _ _ _ _ _ [.int r4, .int a4] _ _ _
    refine ry_ic_ge (tgt := 92) (pc2 := 21) op115_18 (by decide) (by decide) rfl (fun b6 => ?_) (fun b6 => ?_)
    · have h := (if_pos b6).symm.trans h
      refine rx_p (L2 := [some (.ref 102), some (.ref q1), some (.ref q2), some (.int a3), some (.int a4), o5]) (S2 := [.ref q2]) (pc2 := 22) op115_21 rfl rfl ?_
      refine rx_gf (v := .ref (q2 + 2)) (pc2 := 25) op115_22 (hq2.1) rfl rfl rfl ?_
      refine rx_p (L2 := [some (.ref 102), some (.ref q1), some (.ref q2), some (.int a3), some (.int a4), o5]) (S2 := [.int a4, .ref (q2 + 2)]) (pc2 := 27) op115_25 rfl rfl ?_
      obtain ⟨k7, h⟩ := rq_chk h
      refine rx_ia (pc2 := 28) op115_27 (rn_shlt (hq2.2.2.1)) (hq2.2.2.1) k7 rfl rfl ?_
      obtain ⟨x8, ex8, h⟩ := rq_bv h
      refine rx_s (v := x8) (L2 := [some (.ref 102), some (.ref q1), some (.ref q2), some (.int a3), some (.int a4), some (.int x8)]) (pc2 := 30) op115_28 ex8 rfl rfl ?_
      refine rx_p (L2 := [some (.ref 102), some (.ref q1), some (.ref q2), some (.int a3), some (.int a4), some (.int x8)]) (S2 := [.ref q1]) (pc2 := 31) op115_30 rfl rfl ?_
      refine rx_p (L2 := [some (.ref 102), some (.ref q1), some (.ref q2), some (.int a3), some (.int a4), some (.int x8)]) (S2 := [.ref q2, .ref q1]) (pc2 := 32) op115_31 rfl rfl ?_
      refine rx_gf (v := .ref (q2 + 1)) (pc2 := 35) op115_32 (hq2.1) rfl rfl rfl ?_
      refine rx_p (L2 := [some (.ref 102), some (.ref q1), some (.ref q2), some (.int a3), some (.int a4), some (.int x8)]) (S2 := [.int a4, .ref (q2 + 1), .ref q1]) (pc2 := 37) op115_35 rfl rfl ?_
      obtain ⟨k9, h⟩ := rq_chk h
      refine rx_ia (pc2 := 38) op115_37 (rn_shlt (hq2.2.1)) (hq2.2.1) k9 rfl rfl ?_
      refine rx_p (L2 := [some (.ref 102), some (.ref q1), some (.ref q2), some (.int a3), some (.int a4), some (.int x8)]) (S2 := [.int a3, .int (m3.1 (q2 + 1) a4.toNatClampNeg), .ref q1]) (pc2 := 39) op115_38 rfl rfl ?_
      refine rx_p (L2 := [some (.ref 102), some (.ref q1), some (.ref q2), some (.int a3), some (.int a4), some (.int x8)]) (S2 := [.ref 102, .int a3, .int (m3.1 (q2 + 1) a4.toNatClampNeg), .ref q1]) (pc2 := 40) op115_39 rfl rfl ?_
      refine rx_gf (v := .ref 103) (pc2 := 43) op115_40 sp_102 rfl rfl rfl ?_
      refine rx_p (L2 := [some (.ref 102), some (.ref q1), some (.ref q2), some (.int a3), some (.int a4), some (.int x8)]) (S2 := [.int x8, .ref 103, .int a3, .int (m3.1 (q2 + 1) a4.toNatClampNeg), .ref q1]) (pc2 := 45) op115_43 rfl rfl ?_
      obtain ⟨k10, h⟩ := rq_chk h
      refine rx_ia (pc2 := 46) op115_45 (rn_shlt sp_103) sp_103 k10 rfl rfl ?_
      obtain ⟨⟨r12, m11⟩, f13, h⟩ := rq_bind h
      try dsimp only at h
      refine ry_iv (p := q1) (vs := [.int (m3.1 (q2 + 1) a4.toNatClampNeg), .int a3, .int (m3.1 103 x8.toNatClampNeg)]) (T := []) (pc2 := 49) op115_46 ms_117 (by decide) rfl rfl (Nat.le_of_ble_eq_true rfl) (Nat.le_of_ble_eq_true rfl) hq1 (ga_lets_ok xs (by omega) hq1 f13) rfl ?_
      show rn_R _ _ _ _ _ [.int r12] _ _ _
      refine ry_if_ne (tgt := 55) (pc2 := 52) op115_49 (by decide) (by decide) rfl (fun b14 => ?_) (fun b14 => ?_)
      · have h := (if_pos b14).symm.trans h
        refine rx_p (L2 := [some (.ref 102), some (.ref q1), some (.ref q2), some (.int a3), some (.int a4), some (.int x8)]) (S2 := [.int a4]) (pc2 := 54) op115_52 rfl rfl ?_
        cases h
        obtain ⟨rfl, rfl⟩ := hl _ _ rfl
        exact ry_ri op115_54 ms_115 rfl
      · have h := (if_neg b14).symm.trans h
        refine rx_p (L2 := [some (.ref 102), some (.ref q1), some (.ref q2), some (.int a3), some (.int a4), some (.int x8)]) (S2 := [.ref 102]) (pc2 := 56) op115_55 rfl rfl ?_
        refine rx_gf (v := .ref 103) (pc2 := 59) op115_56 sp_102 rfl rfl rfl ?_
        refine rx_p (L2 := [some (.ref 102), some (.ref q1), some (.ref q2), some (.int a3), some (.int a4), some (.int x8)]) (S2 := [.int x8, .ref 103]) (pc2 := 61) op115_59 rfl rfl ?_
        refine rx_p (L2 := [some (.ref 102), some (.ref q1), some (.ref q2), some (.int a3), some (.int a4), some (.int x8)]) (S2 := [.int x8, .ref 103, .int x8, .ref 103]) (pc2 := 62) op115_61 rfl rfl ?_
        obtain ⟨k15, h⟩ := rq_chk h
        refine rx_ia (pc2 := 63) op115_62 (rn_shlt sp_103) sp_103 k15 rfl rfl ?_
        refine rx_ic (v := 1) (pc2 := 64) op115_63 (by decide) rfl ?_
        refine rx_p (L2 := [some (.ref 102), some (.ref q1), some (.ref q2), some (.int a3), some (.int a4), some (.int x8)]) (S2 := [.ref q2, .int 1, .int (m11.1 103 x8.toNatClampNeg), .int x8, .ref 103]) (pc2 := 65) op115_64 rfl rfl ?_
        refine rx_gf (v := .ref (q2 + 1)) (pc2 := 68) op115_65 (hq2.1) rfl rfl rfl ?_
        refine rx_p (L2 := [some (.ref 102), some (.ref q1), some (.ref q2), some (.int a3), some (.int a4), some (.int x8)]) (S2 := [.int a4, .ref (q2 + 1), .int 1, .int (m11.1 103 x8.toNatClampNeg), .int x8, .ref 103]) (pc2 := 70) op115_68 rfl rfl ?_
        obtain ⟨k16, h⟩ := rq_chk h
        refine rx_ia (pc2 := 71) op115_70 (rn_shlt (hq2.2.1)) (hq2.2.1) k16 rfl rfl ?_
        refine rx_p (L2 := [some (.ref 102), some (.ref q1), some (.ref q2), some (.int a3), some (.int a4), some (.int x8)]) (S2 := [.int ((1 : Int32) <<< ((m11.1 (q2 + 1) a4.toNatClampNeg) &&& 31)), .int (m11.1 103 x8.toNatClampNeg), .int x8, .ref 103]) (pc2 := 72) op115_71 rfl rfl ?_
        refine rx_ic (v := (-1)) (pc2 := 73) op115_72 (by decide) rfl ?_
        refine rx_p (L2 := [some (.ref 102), some (.ref q1), some (.ref q2), some (.int a3), some (.int a4), some (.int x8)]) (S2 := [.int (((1 : Int32) <<< ((m11.1 (q2 + 1) a4.toNatClampNeg) &&& 31)) ^^^ (-1)), .int (m11.1 103 x8.toNatClampNeg), .int x8, .ref 103]) (pc2 := 74) op115_73 rfl rfl ?_
        refine rx_p (L2 := [some (.ref 102), some (.ref q1), some (.ref q2), some (.int a3), some (.int a4), some (.int x8)]) (S2 := [.int ((m11.1 103 x8.toNatClampNeg) &&& (((1 : Int32) <<< ((m11.1 (q2 + 1) a4.toNatClampNeg) &&& 31)) ^^^ (-1))), .int x8, .ref 103]) (pc2 := 75) op115_74 rfl rfl ?_
        obtain ⟨k18, h⟩ := rq_chk h
        obtain ⟨m17, em17, h⟩ := rq_bv h
        refine rx_is (m2 := m17) (pc2 := 76) op115_75 sp_103 k18 rfl em17 rfl ?_
        refine rx_p (L2 := [some (.ref 102), some (.ref q1), some (.ref q2), some (.int a3), some (.int a4), some (.int x8)]) (S2 := [.ref q1]) (pc2 := 77) op115_76 rfl rfl ?_
        refine rx_p (L2 := [some (.ref 102), some (.ref q1), some (.ref q2), some (.int a3), some (.int a4), some (.int x8)]) (S2 := [.ref q2, .ref q1]) (pc2 := 78) op115_77 rfl rfl ?_
        refine rx_p (L2 := [some (.ref 102), some (.ref q1), some (.ref q2), some (.int a3), some (.int a4), some (.int x8)]) (S2 := [.int a4, .ref q2, .ref q1]) (pc2 := 80) op115_78 rfl rfl ?_
        refine rx_ic (v := 1) (pc2 := 81) op115_80 (by decide) rfl ?_
        refine rx_p (L2 := [some (.ref 102), some (.ref q1), some (.ref q2), some (.int a3), some (.int a4), some (.int x8)]) (S2 := [.int (a4 + 1), .ref q2, .ref q1]) (pc2 := 82) op115_81 rfl rfl ?_
        obtain ⟨⟨r20, m19⟩, f21, h⟩ := rq_bind h
        try dsimp only at h
        refine ry_is (vs := [.ref q1, .ref q2, .int (a4 + 1)]) (T := []) (pc2 := 85) op115_82 (by decide) ms_119 (by decide) rfl rfl (Nat.le_of_ble_eq_true rfl) (Nat.le_of_ble_eq_true rfl) (ju_soFar_ok xs (by omega) hq1 hq2 f21) rfl ?_
        show rn_R _ _ _ _ _ [.int r20] _ _ _
        refine rx_s (L2 := [some (.ref 102), some (.ref q1), some (.ref q2), some (.int r20), some (.int a4), some (.int x8)]) (pc2 := 86) op115_85 rfl rfl rfl ?_
        obtain ⟨x22, ex22, h⟩ := rq_bv h
        refine rx_inc (w := 1) (v := x22) (L2 := [some (.ref 102), some (.ref q1), some (.ref q2), some (.int r20), some (.int x22), some (.int x8)]) (pc2 := 89) op115_86 rfl (by decide) ex22 rfl rfl ?_
        refine ry_go (tgt := 12) op115_89 (by decide) (by decide) ?_
        exact ih _ _ _ _ hq1 hq2 h
    · have h := (if_neg b6).symm.trans h
      cases h
      exact hr _ rfl _ _ _ _ _ _
set_option maxHeartbeats 4000000 in
set_option maxRecDepth 20000 in
theorem ju_breach_ok (xs : List Int32) {d : Nat} (hd : 2 ≤ d) {n : Nat} {q1 : Nat} {q2 : Nat} {m mO : rn_Mem} {rO : Int32} (hq1 : sA_Game q1) (hq2 : sA_Row q2) (h : ju_breach n q1 q2 m = some (rO, mO)) : rn_R xs d 115 0 (rn_ent 6 [.ref 102, .ref q1, .ref q2]) [] (rn_SH, m) (some (.int rO)) (rn_SH, mO) := by
  obtain ⟨d, rfl⟩ : ∃ e, d = e + 1 := ⟨d - 1, by omega⟩
  unfold ju_breach at h
  show rn_R xs (d + 1) 115 0 [some (.ref 102), some (.ref q1), some (.ref q2), none, none, none] [] (rn_SH, m) (some (.int rO)) (rn_SH, mO)
  refine rx_p (L2 := [some (.ref 102), some (.ref q1), some (.ref q2), none, none, none]) (S2 := [.ref 102]) (pc2 := 1) op115_0 rfl rfl ?_
  refine rx_p (L2 := [some (.ref 102), some (.ref q1), some (.ref q2), none, none, none]) (S2 := [.ref q1, .ref 102]) (pc2 := 2) op115_1 rfl rfl ?_
  refine rx_p (L2 := [some (.ref 102), some (.ref q1), some (.ref q2), none, none, none]) (S2 := [.ref q2, .ref q1, .ref 102]) (pc2 := 3) op115_2 rfl rfl ?_
  refine rx_ic (v := 0) (pc2 := 4) op115_3 (by decide) rfl ?_
  obtain ⟨m1, f2, h⟩ := rq_bind h
  try dsimp only at h
  refine ry_iv (p := 102) (vs := [.ref q1, .ref q2, .int 0]) (T := []) (pc2 := 7) op115_4 ms_116 (by decide) rfl rfl (Nat.le_of_ble_eq_true rfl) (Nat.le_of_ble_eq_true rfl) sp_102 (ju_deal_ok xs (by omega) hq1 hq2 f2) rfl ?_
  show rn_R _ _ _ _ _ [] _ _ _
  refine rx_ic (v := (-1)) (pc2 := 8) op115_7 (by decide) rfl ?_
  refine rx_s (L2 := [some (.ref 102), some (.ref q1), some (.ref q2), some (.int (-1)), none, none]) (pc2 := 9) op115_8 rfl rfl rfl ?_
  refine rx_ic (v := 0) (pc2 := 10) op115_9 (by decide) rfl ?_
  refine rx_s (L2 := [some (.ref 102), some (.ref q1), some (.ref q2), some (.int (-1)), some (.int 0), none]) (pc2 := 12) op115_10 rfl rfl rfl ?_
  obtain ⟨wf30, f30, h⟩ := rq_bind h
  refine ju_breach_l12_ok xs hd (fun v0 m0 eq => ?_) (fun m23 eq => ?_) _ _ _ _ _ hq1 hq2 f30
  · subst eq
    try dsimp only at h
    cases h
    exact ⟨rfl, rfl⟩
  · subst eq
    try dsimp only at h
    intro o24 o25 o26 o27 o28 o29
    refine rx_bp (v := (-4)) (pc2 := 94) op115_92 (by decide) rfl ?_
    obtain ⟨rfl, rfl⟩ := rq_ret h
    exact ry_ri op115_94 ms_115 rfl
/-! ro_copy -/
theorem op120_0 : rn_op 120 0 = some (.aload_n 0, 1, 0, 0, 0) := by decide +kernel
theorem op120_1 : rn_op 120 1 = some (.aload_n 1, 1, 0, 0, 0) := by decide +kernel
theorem op120_2 : rn_op 120 2 = some (.getfield 24, 3, 3, 0, 2) := by decide +kernel
theorem op120_5 : rn_op 120 5 = some (.putfield 24, 3, 3, 0, 2) := by decide +kernel
theorem op120_8 : rn_op 120 8 = some (.aload_n 0, 1, 0, 0, 0) := by decide +kernel
theorem op120_9 : rn_op 120 9 = some (.aload_n 1, 1, 0, 0, 0) := by decide +kernel
theorem op120_10 : rn_op 120 10 = some (.getfield 28, 3, 3, 1, 0) := by decide +kernel
theorem op120_13 : rn_op 120 13 = some (.putfield 28, 3, 3, 1, 0) := by decide +kernel
theorem op120_16 : rn_op 120 16 = some (.aload_n 1, 1, 0, 0, 0) := by decide +kernel
theorem op120_17 : rn_op 120 17 = some (.getfield 9, 3, 3, 2, 3) := by decide +kernel
theorem op120_20 : rn_op 120 20 = some (.iconst 0, 1, 0, 0, 0) := by decide +kernel
theorem op120_21 : rn_op 120 21 = some (.aload_n 0, 1, 0, 0, 0) := by decide +kernel
theorem op120_22 : rn_op 120 22 = some (.getfield 9, 3, 3, 2, 3) := by decide +kernel
theorem op120_25 : rn_op 120 25 = some (.iconst 0, 1, 0, 0, 0) := by decide +kernel
theorem op120_26 : rn_op 120 26 = some (.bipush 12, 2, 0, 0, 0) := by decide +kernel
theorem op120_28 : rn_op 120 28 = some (.invokestatic 82, 3, 998, 5, 0) := by decide +kernel
theorem op120_31 : rn_op 120 31 = some (.aload_n 1, 1, 0, 0, 0) := by decide +kernel
theorem op120_32 : rn_op 120 32 = some (.getfield 15, 3, 3, 3, 3) := by decide +kernel
theorem op120_35 : rn_op 120 35 = some (.iconst 0, 1, 0, 0, 0) := by decide +kernel
theorem op120_36 : rn_op 120 36 = some (.aload_n 0, 1, 0, 0, 0) := by decide +kernel
theorem op120_37 : rn_op 120 37 = some (.getfield 15, 3, 3, 3, 3) := by decide +kernel
theorem op120_40 : rn_op 120 40 = some (.iconst 0, 1, 0, 0, 0) := by decide +kernel
theorem op120_41 : rn_op 120 41 = some (.bipush 12, 2, 0, 0, 0) := by decide +kernel
theorem op120_43 : rn_op 120 43 = some (.invokestatic 82, 3, 998, 5, 0) := by decide +kernel
theorem op120_46 : rn_op 120 46 = some (.aload_n 1, 1, 0, 0, 0) := by decide +kernel
theorem op120_47 : rn_op 120 47 = some (.getfield 18, 3, 3, 4, 3) := by decide +kernel
theorem op120_50 : rn_op 120 50 = some (.iconst 0, 1, 0, 0, 0) := by decide +kernel
theorem op120_51 : rn_op 120 51 = some (.aload_n 0, 1, 0, 0, 0) := by decide +kernel
theorem op120_52 : rn_op 120 52 = some (.getfield 18, 3, 3, 4, 3) := by decide +kernel
theorem op120_55 : rn_op 120 55 = some (.iconst 0, 1, 0, 0, 0) := by decide +kernel
theorem op120_56 : rn_op 120 56 = some (.bipush 12, 2, 0, 0, 0) := by decide +kernel
theorem op120_58 : rn_op 120 58 = some (.invokestatic 82, 3, 998, 5, 0) := by decide +kernel
theorem op120_61 : rn_op 120 61 = some (.aload_n 1, 1, 0, 0, 0) := by decide +kernel
theorem op120_62 : rn_op 120 62 = some (.getfield 21, 3, 3, 5, 3) := by decide +kernel
theorem op120_65 : rn_op 120 65 = some (.iconst 0, 1, 0, 0, 0) := by decide +kernel
theorem op120_66 : rn_op 120 66 = some (.aload_n 0, 1, 0, 0, 0) := by decide +kernel
theorem op120_67 : rn_op 120 67 = some (.getfield 21, 3, 3, 5, 3) := by decide +kernel
theorem op120_70 : rn_op 120 70 = some (.iconst 0, 1, 0, 0, 0) := by decide +kernel
theorem op120_71 : rn_op 120 71 = some (.bipush 13, 2, 0, 0, 0) := by decide +kernel
theorem op120_73 : rn_op 120 73 = some (.invokestatic 82, 3, 998, 5, 0) := by decide +kernel
theorem op120_76 : rn_op 120 76 = some (.return_, 1, 0, 0, 0) := by decide +kernel
def ro_copy (n : Nat) (q0 : Nat) (q1 : Nat) (m : rn_Mem) : Option (rn_Mem) :=
  if (m.1 q1 0) = 0 ∨ (m.1 q1 0) = 1 then
    (some (rm_i m q0 0 (m.1 q1 0))).bind fun (m1 : rn_Mem) =>
    (some (rm_i m1 q0 1 (m1.1 q1 1))).bind fun (m3 : rn_Mem) =>
    (some (rm_c m3 (q1 + 1) (q0 + 1) (0 : Int32).toNatClampNeg (0 : Int32).toNatClampNeg (12 : Int32).toNatClampNeg)).bind fun (m4 : rn_Mem) =>
    (some (rm_c m4 (q1 + 2) (q0 + 2) (0 : Int32).toNatClampNeg (0 : Int32).toNatClampNeg (12 : Int32).toNatClampNeg)).bind fun (m6 : rn_Mem) =>
    (some (rm_c m6 (q1 + 3) (q0 + 3) (0 : Int32).toNatClampNeg (0 : Int32).toNatClampNeg (12 : Int32).toNatClampNeg)).bind fun (m8 : rn_Mem) =>
    (some (rm_c m8 (q1 + 4) (q0 + 4) (0 : Int32).toNatClampNeg (0 : Int32).toNatClampNeg (13 : Int32).toNatClampNeg)).bind fun (m10 : rn_Mem) =>
    some m10
  else none
set_option maxHeartbeats 4000000 in
set_option maxRecDepth 20000 in
theorem ro_copy_ok (xs : List Int32) {d : Nat} (hd : 0 ≤ d) {n : Nat} {q0 : Nat} {q1 : Nat} {m mO : rn_Mem} (hq0 : sA_Row q0) (hq1 : sA_Row q1) (h : ro_copy n q0 q1 m = some mO) : rn_R xs d 120 0 (rn_ent 2 [.ref q0, .ref q1]) [] (rn_SH, m) none (rn_SH, mO) := by
  unfold ro_copy at h
  show rn_R xs d 120 0 [some (.ref q0), some (.ref q1)] [] (rn_SH, m) none (rn_SH, mO)
  refine rx_p (L2 := [some (.ref q0), some (.ref q1)]) (S2 := [.ref q0]) (pc2 := 1) op120_0 rfl rfl ?_
  refine rx_p (L2 := [some (.ref q0), some (.ref q1)]) (S2 := [.ref q1, .ref q0]) (pc2 := 2) op120_1 rfl rfl ?_
  refine rx_gf (v := .int (m.1 q1 0)) (pc2 := 5) op120_2 (hq1.1) rfl rfl rfl ?_
  obtain ⟨k2, h⟩ := rq_chk h
  obtain ⟨m1, em1, h⟩ := rq_bv h
  refine rx_pz (m2 := m1) (pc2 := 8) op120_5 (hq0.1) rfl k2 em1 rfl ?_
  refine rx_p (L2 := [some (.ref q0), some (.ref q1)]) (S2 := [.ref q0]) (pc2 := 9) op120_8 rfl rfl ?_
  refine rx_p (L2 := [some (.ref q0), some (.ref q1)]) (S2 := [.ref q1, .ref q0]) (pc2 := 10) op120_9 rfl rfl ?_
  refine rx_gf (v := .int (m1.1 q1 1)) (pc2 := 13) op120_10 (hq1.1) rfl rfl rfl ?_
  obtain ⟨m3, em3, h⟩ := rq_bv h
  refine rx_pf (m2 := m3) (pc2 := 16) op120_13 (hq0.1) rfl em3 rfl ?_
  refine rx_p (L2 := [some (.ref q0), some (.ref q1)]) (S2 := [.ref q1]) (pc2 := 17) op120_16 rfl rfl ?_
  refine rx_gf (v := .ref (q1 + 1)) (pc2 := 20) op120_17 (hq1.1) rfl rfl rfl ?_
  refine rx_ic (v := 0) (pc2 := 21) op120_20 (by decide) rfl ?_
  refine rx_p (L2 := [some (.ref q0), some (.ref q1)]) (S2 := [.ref q0, .int 0, .ref (q1 + 1)]) (pc2 := 22) op120_21 rfl rfl ?_
  refine rx_gf (v := .ref (q0 + 1)) (pc2 := 25) op120_22 (hq0.1) rfl rfl rfl ?_
  refine rx_ic (v := 0) (pc2 := 26) op120_25 (by decide) rfl ?_
  refine rx_bp (v := 12) (pc2 := 28) op120_26 (by decide) rfl ?_
  obtain ⟨m4, em4, h⟩ := rq_bv h
  refine rx_cp (m2 := m4) (pc2 := 31) op120_28 (hq1.2.1) (hq0.2.1) (by decide) (Nat.le_of_ble_eq_true rfl) em4 rfl ?_
  refine rx_p (L2 := [some (.ref q0), some (.ref q1)]) (S2 := [.ref q1]) (pc2 := 32) op120_31 rfl rfl ?_
  refine rx_gf (v := .ref (q1 + 2)) (pc2 := 35) op120_32 (hq1.1) rfl rfl rfl ?_
  refine rx_ic (v := 0) (pc2 := 36) op120_35 (by decide) rfl ?_
  refine rx_p (L2 := [some (.ref q0), some (.ref q1)]) (S2 := [.ref q0, .int 0, .ref (q1 + 2)]) (pc2 := 37) op120_36 rfl rfl ?_
  refine rx_gf (v := .ref (q0 + 2)) (pc2 := 40) op120_37 (hq0.1) rfl rfl rfl ?_
  refine rx_ic (v := 0) (pc2 := 41) op120_40 (by decide) rfl ?_
  refine rx_bp (v := 12) (pc2 := 43) op120_41 (by decide) rfl ?_
  obtain ⟨m6, em6, h⟩ := rq_bv h
  refine rx_cp (m2 := m6) (pc2 := 46) op120_43 (hq1.2.2.1) (hq0.2.2.1) (by decide) (Nat.le_of_ble_eq_true rfl) em6 rfl ?_
  refine rx_p (L2 := [some (.ref q0), some (.ref q1)]) (S2 := [.ref q1]) (pc2 := 47) op120_46 rfl rfl ?_
  refine rx_gf (v := .ref (q1 + 3)) (pc2 := 50) op120_47 (hq1.1) rfl rfl rfl ?_
  refine rx_ic (v := 0) (pc2 := 51) op120_50 (by decide) rfl ?_
  refine rx_p (L2 := [some (.ref q0), some (.ref q1)]) (S2 := [.ref q0, .int 0, .ref (q1 + 3)]) (pc2 := 52) op120_51 rfl rfl ?_
  refine rx_gf (v := .ref (q0 + 3)) (pc2 := 55) op120_52 (hq0.1) rfl rfl rfl ?_
  refine rx_ic (v := 0) (pc2 := 56) op120_55 (by decide) rfl ?_
  refine rx_bp (v := 12) (pc2 := 58) op120_56 (by decide) rfl ?_
  obtain ⟨m8, em8, h⟩ := rq_bv h
  refine rx_cp (m2 := m8) (pc2 := 61) op120_58 (hq1.2.2.2.1) (hq0.2.2.2.1) (by decide) (Nat.le_of_ble_eq_true rfl) em8 rfl ?_
  refine rx_p (L2 := [some (.ref q0), some (.ref q1)]) (S2 := [.ref q1]) (pc2 := 62) op120_61 rfl rfl ?_
  refine rx_gf (v := .ref (q1 + 4)) (pc2 := 65) op120_62 (hq1.1) rfl rfl rfl ?_
  refine rx_ic (v := 0) (pc2 := 66) op120_65 (by decide) rfl ?_
  refine rx_p (L2 := [some (.ref q0), some (.ref q1)]) (S2 := [.ref q0, .int 0, .ref (q1 + 4)]) (pc2 := 67) op120_66 rfl rfl ?_
  refine rx_gf (v := .ref (q0 + 4)) (pc2 := 70) op120_67 (hq0.1) rfl rfl rfl ?_
  refine rx_ic (v := 0) (pc2 := 71) op120_70 (by decide) rfl ?_
  refine rx_bp (v := 13) (pc2 := 73) op120_71 (by decide) rfl ?_
  obtain ⟨m10, em10, h⟩ := rq_bv h
  refine rx_cp (m2 := m10) (pc2 := 76) op120_73 (hq1.2.2.2.2) (hq0.2.2.2.2) (by decide) (Nat.le_of_ble_eq_true rfl) em10 rfl ?_
  obtain rfl := Option.some.inj h
  exact ry_rv op120_76 ms_120 rfl
/-! lt_row -/
theorem op108_0 : rn_op 108 0 = some (.iload_n 1, 1, 0, 0, 0) := by decide +kernel
theorem op108_1 : rn_op 108 1 = some (.invokestatic 132, 3, 39, 1, 0) := by decide +kernel
theorem op108_4 : rn_op 108 4 = some (.ifCond .ne 17, 3, 0, 0, 0) := by decide +kernel
theorem op108_7 : rn_op 108 7 = some (.iload_n 2, 1, 0, 0, 0) := by decide +kernel
theorem op108_8 : rn_op 108 8 = some (.invokestatic 246, 3, 109, 1, 0) := by decide +kernel
theorem op108_11 : rn_op 108 11 = some (.ifCond .ne 10, 3, 0, 0, 0) := by decide +kernel
theorem op108_14 : rn_op 108 14 = some (.iload_n 3, 1, 0, 0, 0) := by decide +kernel
theorem op108_15 : rn_op 108 15 = some (.invokestatic 249, 3, 110, 1, 0) := by decide +kernel
theorem op108_18 : rn_op 108 18 = some (.ifCond .eq 5, 3, 0, 0, 0) := by decide +kernel
theorem op108_21 : rn_op 108 21 = some (.iconst (-1), 1, 0, 0, 0) := by decide +kernel
theorem op108_22 : rn_op 108 22 = some (.ireturn, 1, 0, 0, 0) := by decide +kernel
theorem op108_23 : rn_op 108 23 = some (.aload_n 0, 1, 0, 0, 0) := by decide +kernel
theorem op108_24 : rn_op 108 24 = some (.getfield 19, 3, 10, 1, 3) := by decide +kernel
theorem op108_27 : rn_op 108 27 = some (.getfield 62, 3, 6, 0, 3) := by decide +kernel
theorem op108_30 : rn_op 108 30 = some (.getfield 89, 3, 1, 0, 2) := by decide +kernel
theorem op108_33 : rn_op 108 33 = some (.ifCond .ne 6, 3, 0, 0, 0) := by decide +kernel
theorem op108_36 : rn_op 108 36 = some (.bipush (-2), 2, 0, 0, 0) := by decide +kernel
theorem op108_38 : rn_op 108 38 = some (.ireturn, 1, 0, 0, 0) := by decide +kernel
theorem op108_39 : rn_op 108 39 = some (.iload_n 1, 1, 0, 0, 0) := by decide +kernel
theorem op108_40 : rn_op 108 40 = some (.aload_n 0, 1, 0, 0, 0) := by decide +kernel
theorem op108_41 : rn_op 108 41 = some (.getfield 19, 3, 10, 1, 3) := by decide +kernel
theorem op108_44 : rn_op 108 44 = some (.getfield 62, 3, 6, 0, 3) := by decide +kernel
theorem op108_47 : rn_op 108 47 = some (.getfield 118, 3, 1, 1, 0) := by decide +kernel
theorem op108_50 : rn_op 108 50 = some (.if_icmp .lt 5, 3, 0, 0, 0) := by decide +kernel
theorem op108_53 : rn_op 108 53 = some (.iconst (-1), 1, 0, 0, 0) := by decide +kernel
theorem op108_54 : rn_op 108 54 = some (.ireturn, 1, 0, 0, 0) := by decide +kernel
theorem op108_55 : rn_op 108 55 = some (.aload_n 0, 1, 0, 0, 0) := by decide +kernel
theorem op108_56 : rn_op 108 56 = some (.getfield 45, 3, 10, 6, 3) := by decide +kernel
theorem op108_59 : rn_op 108 59 = some (.iload_n 2, 1, 0, 0, 0) := by decide +kernel
theorem op108_60 : rn_op 108 60 = some (.aaload, 1, 0, 0, 0) := by decide +kernel
theorem op108_61 : rn_op 108 61 = some (.iload_n 3, 1, 0, 0, 0) := by decide +kernel
theorem op108_62 : rn_op 108 62 = some (.iload 4, 2, 0, 0, 0) := by decide +kernel
theorem op108_64 : rn_op 108 64 = some (.aload_n 0, 1, 0, 0, 0) := by decide +kernel
theorem op108_65 : rn_op 108 65 = some (.getfield 19, 3, 10, 1, 3) := by decide +kernel
theorem op108_68 : rn_op 108 68 = some (.getfield 62, 3, 6, 0, 3) := by decide +kernel
theorem op108_71 : rn_op 108 71 = some (.invokevirtual 84, 3, 23, 1, 1) := by decide +kernel
theorem op108_74 : rn_op 108 74 = some (.invokevirtual 252, 3, 111, 4, 5) := by decide +kernel
theorem op108_77 : rn_op 108 77 = some (.istore 5, 2, 0, 0, 0) := by decide +kernel
theorem op108_79 : rn_op 108 79 = some (.iload 5, 2, 0, 0, 0) := by decide +kernel
theorem op108_81 : rn_op 108 81 = some (.ifCond .eq 6, 3, 0, 0, 0) := by decide +kernel
theorem op108_84 : rn_op 108 84 = some (.iload 5, 2, 0, 0, 0) := by decide +kernel
theorem op108_86 : rn_op 108 86 = some (.ireturn, 1, 0, 0, 0) := by decide +kernel
theorem op108_87 : rn_op 108 87 = some (.aload_n 0, 1, 0, 0, 0) := by decide +kernel
theorem op108_88 : rn_op 108 88 = some (.getfield 26, 3, 10, 3, 3) := by decide +kernel
theorem op108_91 : rn_op 108 91 = some (.getfield 125, 3, 6, 3, 3) := by decide +kernel
theorem op108_94 : rn_op 108 94 = some (.astore 6, 2, 0, 0, 0) := by decide +kernel
theorem op108_96 : rn_op 108 96 = some (.aload 6, 2, 0, 0, 0) := by decide +kernel
theorem op108_98 : rn_op 108 98 = some (.iload_n 1, 1, 0, 0, 0) := by decide +kernel
theorem op108_99 : rn_op 108 99 = some (.aload_n 0, 1, 0, 0, 0) := by decide +kernel
theorem op108_100 : rn_op 108 100 = some (.getfield 45, 3, 10, 6, 3) := by decide +kernel
theorem op108_103 : rn_op 108 103 = some (.iload_n 2, 1, 0, 0, 0) := by decide +kernel
theorem op108_104 : rn_op 108 104 = some (.aaload, 1, 0, 0, 0) := by decide +kernel
theorem op108_105 : rn_op 108 105 = some (.iload 4, 2, 0, 0, 0) := by decide +kernel
theorem op108_107 : rn_op 108 107 = some (.aload_n 0, 1, 0, 0, 0) := by decide +kernel
theorem op108_108 : rn_op 108 108 = some (.getfield 19, 3, 10, 1, 3) := by decide +kernel
theorem op108_111 : rn_op 108 111 = some (.getfield 62, 3, 6, 0, 3) := by decide +kernel
theorem op108_114 : rn_op 108 114 = some (.invokevirtual 84, 3, 23, 1, 1) := by decide +kernel
theorem op108_117 : rn_op 108 117 = some (.invokevirtual 255, 3, 112, 5, 3) := by decide +kernel
theorem op108_120 : rn_op 108 120 = some (.aload 6, 2, 0, 0, 0) := by decide +kernel
theorem op108_122 : rn_op 108 122 = some (.aload_n 0, 1, 0, 0, 0) := by decide +kernel
theorem op108_123 : rn_op 108 123 = some (.getfield 19, 3, 10, 1, 3) := by decide +kernel
theorem op108_126 : rn_op 108 126 = some (.getfield 62, 3, 6, 0, 3) := by decide +kernel
theorem op108_129 : rn_op 108 129 = some (.invokevirtual 259, 3, 113, 2, 3) := by decide +kernel
theorem op108_132 : rn_op 108 132 = some (.istore 7, 2, 0, 0, 0) := by decide +kernel
theorem op108_134 : rn_op 108 134 = some (.iload 7, 2, 0, 0, 0) := by decide +kernel
theorem op108_136 : rn_op 108 136 = some (.bipush (-4), 2, 0, 0, 0) := by decide +kernel
theorem op108_138 : rn_op 108 138 = some (.if_icmp .ne 33, 3, 0, 0, 0) := by decide +kernel
theorem op108_141 : rn_op 108 141 = some (.aload 6, 2, 0, 0, 0) := by decide +kernel
theorem op108_143 : rn_op 108 143 = some (.aload_n 0, 1, 0, 0, 0) := by decide +kernel
theorem op108_144 : rn_op 108 144 = some (.getfield 19, 3, 10, 1, 3) := by decide +kernel
theorem op108_147 : rn_op 108 147 = some (.getfield 62, 3, 6, 0, 3) := by decide +kernel
theorem op108_150 : rn_op 108 150 = some (.invokevirtual 263, 3, 114, 2, 3) := by decide +kernel
theorem op108_153 : rn_op 108 153 = some (.aload_n 0, 1, 0, 0, 0) := by decide +kernel
theorem op108_154 : rn_op 108 154 = some (.getfield 39, 3, 10, 5, 3) := by decide +kernel
theorem op108_157 : rn_op 108 157 = some (.aload_n 0, 1, 0, 0, 0) := by decide +kernel
theorem op108_158 : rn_op 108 158 = some (.getfield 19, 3, 10, 1, 3) := by decide +kernel
theorem op108_161 : rn_op 108 161 = some (.getfield 62, 3, 6, 0, 3) := by decide +kernel
theorem op108_164 : rn_op 108 164 = some (.aload 6, 2, 0, 0, 0) := by decide +kernel
theorem op108_166 : rn_op 108 166 = some (.invokevirtual 266, 3, 115, 3, 2) := by decide +kernel
theorem op108_169 : rn_op 108 169 = some (.istore 7, 2, 0, 0, 0) := by decide +kernel
theorem op108_171 : rn_op 108 171 = some (.iload 7, 2, 0, 0, 0) := by decide +kernel
theorem op108_173 : rn_op 108 173 = some (.bipush (-4), 2, 0, 0, 0) := by decide +kernel
theorem op108_175 : rn_op 108 175 = some (.if_icmp .ne 15, 3, 0, 0, 0) := by decide +kernel
theorem op108_178 : rn_op 108 178 = some (.aload_n 0, 1, 0, 0, 0) := by decide +kernel
theorem op108_179 : rn_op 108 179 = some (.getfield 19, 3, 10, 1, 3) := by decide +kernel
theorem op108_182 : rn_op 108 182 = some (.getfield 125, 3, 6, 3, 3) := by decide +kernel
theorem op108_185 : rn_op 108 185 = some (.aload 6, 2, 0, 0, 0) := by decide +kernel
theorem op108_187 : rn_op 108 187 = some (.invokevirtual 270, 3, 120, 2, 3) := by decide +kernel
theorem op108_190 : rn_op 108 190 = some (.iload 7, 2, 0, 0, 0) := by decide +kernel
theorem op108_192 : rn_op 108 192 = some (.ireturn, 1, 0, 0, 0) := by decide +kernel
def lt_row (n : Nat) (a1 : Int32) (a2 : Int32) (a3 : Int32) (a4 : Int32) (m : rn_Mem) : Option (Int32 × rn_Mem) :=
  (lt_isNoChair n a1 m).bind fun (r2, m1) =>
  if r2 = 0 then
    (lt_isNoSheet n a2 m1).bind fun (r6, m5) =>
    if r6 = 0 then
      (lt_isNoLane n a3 m5).bind fun (r10, m9) =>
      if r10 = 0 then
        if (m9.1 4 0) = 0 then
          some ((-2), m9)
        else
          if a1 < (m9.1 4 1) then
            if rn_in a2 4 = true then
              (ga_cards n 4 m9).bind fun (r17, m16) =>
              (sh_refusal n (107 + 2 * a2.toNatClampNeg) a3 a4 r17 m16).bind fun (r20, m19) =>
              if r20 = 0 then
                if rn_in a2 4 = true then
                  (ga_cards n 4 m19).bind fun (r25, m24) =>
                  (ro_read n 46 a1 (107 + 2 * a2.toNatClampNeg) a4 r25 m24).bind fun m27 =>
                  (ro_stranger n 46 4 m27).bind fun (r30, m29) =>
                  (show Option (Int32 × rn_Mem) from
                    if r30 = (-4) then
                      (ro_seat n 46 4 m29).bind fun m33 =>
                      (ju_breach n 4 46 m33).bind fun (r36, m35) =>
                      some (r36, m35)
                    else
                      some (r30, m29)).bind fun (x43, m44) =>
                  if x43 = (-4) then
                    (ro_copy n 14 46 m44).bind fun m46 =>
                    some (x43, m46)
                  else
                    some (x43, m44)
                else none
              else
                some (r20, m19)
            else none
          else
            some ((-1), m9)
      else
        some ((-1), m9)
    else
      some ((-1), m5)
  else
    some ((-1), m1)
set_option maxHeartbeats 4000000 in
set_option maxRecDepth 20000 in
theorem lt_row_ok (xs : List Int32) {d : Nat} (hd : 3 ≤ d) {n : Nat} {a1 : Int32} {a2 : Int32} {a3 : Int32} {a4 : Int32} {m mO : rn_Mem} {rO : Int32} (h : lt_row n a1 a2 a3 a4 m = some (rO, mO)) : rn_R xs d 108 0 (rn_ent 8 [.ref 0, .int a1, .int a2, .int a3, .int a4]) [] (rn_SH, m) (some (.int rO)) (rn_SH, mO) := by
  obtain ⟨d, rfl⟩ : ∃ e, d = e + 1 := ⟨d - 1, by omega⟩
  unfold lt_row at h
  show rn_R xs (d + 1) 108 0 [some (.ref 0), some (.int a1), some (.int a2), some (.int a3), some (.int a4), none, none, none] [] (rn_SH, m) (some (.int rO)) (rn_SH, mO)
  refine rx_p (L2 := [some (.ref 0), some (.int a1), some (.int a2), some (.int a3), some (.int a4), none, none, none]) (S2 := [.int a1]) (pc2 := 1) op108_0 rfl rfl ?_
  obtain ⟨⟨r2, m1⟩, f3, h⟩ := rq_bind h
  try dsimp only at h
  refine ry_is (vs := [.int a1]) (T := []) (pc2 := 4) op108_1 (by decide) ms_39 (by decide) rfl rfl (Nat.le_of_ble_eq_true rfl) (Nat.le_of_ble_eq_true rfl) (lt_isNoChair_ok xs (by omega)  f3) rfl ?_
  show rn_R _ _ _ _ _ [.int r2] _ _ _
  refine ry_if_ne (tgt := 21) (pc2 := 7) op108_4 (by decide) (by decide) rfl (fun b4 => ?_) (fun b4 => ?_)
  · have h := (if_pos b4).symm.trans h
    refine rx_p (L2 := [some (.ref 0), some (.int a1), some (.int a2), some (.int a3), some (.int a4), none, none, none]) (S2 := [.int a2]) (pc2 := 8) op108_7 rfl rfl ?_
    obtain ⟨⟨r6, m5⟩, f7, h⟩ := rq_bind h
    try dsimp only at h
    refine ry_is (vs := [.int a2]) (T := []) (pc2 := 11) op108_8 (by decide) ms_109 (by decide) rfl rfl (Nat.le_of_ble_eq_true rfl) (Nat.le_of_ble_eq_true rfl) (lt_isNoSheet_ok xs (by omega)  f7) rfl ?_
    show rn_R _ _ _ _ _ [.int r6] _ _ _
    refine ry_if_ne (tgt := 21) (pc2 := 14) op108_11 (by decide) (by decide) rfl (fun b8 => ?_) (fun b8 => ?_)
    · have h := (if_pos b8).symm.trans h
      refine rx_p (L2 := [some (.ref 0), some (.int a1), some (.int a2), some (.int a3), some (.int a4), none, none, none]) (S2 := [.int a3]) (pc2 := 15) op108_14 rfl rfl ?_
      obtain ⟨⟨r10, m9⟩, f11, h⟩ := rq_bind h
      try dsimp only at h
      refine ry_is (vs := [.int a3]) (T := []) (pc2 := 18) op108_15 (by decide) ms_110 (by decide) rfl rfl (Nat.le_of_ble_eq_true rfl) (Nat.le_of_ble_eq_true rfl) (lt_isNoLane_ok xs (by omega)  f11) rfl ?_
      show rn_R _ _ _ _ _ [.int r10] _ _ _
      refine ry_if_eq (tgt := 23) (pc2 := 21) op108_18 (by decide) (by decide) rfl (fun b12 => ?_) (fun b12 => ?_)
      · have h := (if_pos b12).symm.trans h
        refine rx_p (L2 := [some (.ref 0), some (.int a1), some (.int a2), some (.int a3), some (.int a4), none, none, none]) (S2 := [.ref 0]) (pc2 := 24) op108_23 rfl rfl ?_
        refine rx_gf (v := .ref 3) (pc2 := 27) op108_24 sp_0 rfl rfl rfl ?_
        refine rx_gf (v := .ref 4) (pc2 := 30) op108_27 sp_3 rfl rfl rfl ?_
        refine rx_gf (v := .int (m9.1 4 0)) (pc2 := 33) op108_30 sp_4 rfl rfl rfl ?_
        refine ry_if_ne (tgt := 39) (pc2 := 36) op108_33 (by decide) (by decide) rfl (fun b13 => ?_) (fun b13 => ?_)
        · have h := (if_pos b13).symm.trans h
          refine rx_bp (v := (-2)) (pc2 := 38) op108_36 (by decide) rfl ?_
          obtain ⟨rfl, rfl⟩ := rq_ret h
          exact ry_ri op108_38 ms_108 rfl
        · have h := (if_neg b13).symm.trans h
          refine rx_p (L2 := [some (.ref 0), some (.int a1), some (.int a2), some (.int a3), some (.int a4), none, none, none]) (S2 := [.int a1]) (pc2 := 40) op108_39 rfl rfl ?_
          refine rx_p (L2 := [some (.ref 0), some (.int a1), some (.int a2), some (.int a3), some (.int a4), none, none, none]) (S2 := [.ref 0, .int a1]) (pc2 := 41) op108_40 rfl rfl ?_
          refine rx_gf (v := .ref 3) (pc2 := 44) op108_41 sp_0 rfl rfl rfl ?_
          refine rx_gf (v := .ref 4) (pc2 := 47) op108_44 sp_3 rfl rfl rfl ?_
          refine rx_gf (v := .int (m9.1 4 1)) (pc2 := 50) op108_47 sp_4 rfl rfl rfl ?_
          refine ry_ic_lt (tgt := 55) (pc2 := 53) op108_50 (by decide) (by decide) rfl (fun b14 => ?_) (fun b14 => ?_)
          · have h := (if_pos b14).symm.trans h
            refine rx_p (L2 := [some (.ref 0), some (.int a1), some (.int a2), some (.int a3), some (.int a4), none, none, none]) (S2 := [.ref 0]) (pc2 := 56) op108_55 rfl rfl ?_
            refine rx_gf (v := .ref 106) (pc2 := 59) op108_56 sp_0 rfl rfl rfl ?_
            refine rx_p (L2 := [some (.ref 0), some (.int a1), some (.int a2), some (.int a3), some (.int a4), none, none, none]) (S2 := [.int a2, .ref 106]) (pc2 := 60) op108_59 rfl rfl ?_
            obtain ⟨k15, h⟩ := rq_chk h
            refine rx_aa (q := (107 + 2 * a2.toNatClampNeg)) (pc2 := 61) op108_60 sp_106 (by decide) k15 (rn_sheets_at k15) rfl ?_
            refine rx_p (L2 := [some (.ref 0), some (.int a1), some (.int a2), some (.int a3), some (.int a4), none, none, none]) (S2 := [.int a3, .ref (107 + 2 * a2.toNatClampNeg)]) (pc2 := 62) op108_61 rfl rfl ?_
            refine rx_p (L2 := [some (.ref 0), some (.int a1), some (.int a2), some (.int a3), some (.int a4), none, none, none]) (S2 := [.int a4, .int a3, .ref (107 + 2 * a2.toNatClampNeg)]) (pc2 := 64) op108_62 rfl rfl ?_
            refine rx_p (L2 := [some (.ref 0), some (.int a1), some (.int a2), some (.int a3), some (.int a4), none, none, none]) (S2 := [.ref 0, .int a4, .int a3, .ref (107 + 2 * a2.toNatClampNeg)]) (pc2 := 65) op108_64 rfl rfl ?_
            refine rx_gf (v := .ref 3) (pc2 := 68) op108_65 sp_0 rfl rfl rfl ?_
            refine rx_gf (v := .ref 4) (pc2 := 71) op108_68 sp_3 rfl rfl rfl ?_
            obtain ⟨⟨r17, m16⟩, f18, h⟩ := rq_bind h
            try dsimp only at h
            refine ry_iv (p := 4) (vs := []) (T := [.int a4, .int a3, .ref (107 + 2 * a2.toNatClampNeg)]) (pc2 := 74) op108_71 ms_23 (by decide) rfl rfl (Nat.le_of_ble_eq_true rfl) (Nat.le_of_ble_eq_true rfl) sp_4 (ga_cards_ok xs (by omega) sa_4 f18) rfl ?_
            show rn_R _ _ _ _ _ [.int r17, .int a4, .int a3, .ref (107 + 2 * a2.toNatClampNeg)] _ _ _
            obtain ⟨⟨r20, m19⟩, f21, h⟩ := rq_bind h
            try dsimp only at h
            refine ry_iv (p := (107 + 2 * a2.toNatClampNeg)) (vs := [.int a3, .int a4, .int r17]) (T := []) (pc2 := 77) op108_74 ms_111 (by decide) rfl rfl (Nat.le_of_ble_eq_true rfl) (Nat.le_of_ble_eq_true rfl) ((rn_sheets_asm k15).1) (sh_refusal_ok xs (by omega) (rn_sheets_asm k15) f21) rfl ?_
            show rn_R _ _ _ _ _ [.int r20] _ _ _
            refine rx_s (L2 := [some (.ref 0), some (.int a1), some (.int a2), some (.int a3), some (.int a4), some (.int r20), none, none]) (pc2 := 79) op108_77 rfl rfl rfl ?_
            refine rx_p (L2 := [some (.ref 0), some (.int a1), some (.int a2), some (.int a3), some (.int a4), some (.int r20), none, none]) (S2 := [.int r20]) (pc2 := 81) op108_79 rfl rfl ?_
            refine ry_if_eq (tgt := 87) (pc2 := 84) op108_81 (by decide) (by decide) rfl (fun b22 => ?_) (fun b22 => ?_)
            · have h := (if_pos b22).symm.trans h
              refine rx_p (L2 := [some (.ref 0), some (.int a1), some (.int a2), some (.int a3), some (.int a4), some (.int r20), none, none]) (S2 := [.ref 0]) (pc2 := 88) op108_87 rfl rfl ?_
              refine rx_gf (v := .ref 35) (pc2 := 91) op108_88 sp_0 rfl rfl rfl ?_
              refine rx_gf (v := .ref 46) (pc2 := 94) op108_91 sp_35 rfl rfl rfl ?_
              refine rx_p (L2 := [some (.ref 0), some (.int a1), some (.int a2), some (.int a3), some (.int a4), some (.int r20), some (.ref 46), none]) (S2 := []) (pc2 := 96) op108_94 rfl rfl ?_
              refine rx_p (L2 := [some (.ref 0), some (.int a1), some (.int a2), some (.int a3), some (.int a4), some (.int r20), some (.ref 46), none]) (S2 := [.ref 46]) (pc2 := 98) op108_96 rfl rfl ?_
              refine rx_p (L2 := [some (.ref 0), some (.int a1), some (.int a2), some (.int a3), some (.int a4), some (.int r20), some (.ref 46), none]) (S2 := [.int a1, .ref 46]) (pc2 := 99) op108_98 rfl rfl ?_
              refine rx_p (L2 := [some (.ref 0), some (.int a1), some (.int a2), some (.int a3), some (.int a4), some (.int r20), some (.ref 46), none]) (S2 := [.ref 0, .int a1, .ref 46]) (pc2 := 100) op108_99 rfl rfl ?_
              refine rx_gf (v := .ref 106) (pc2 := 103) op108_100 sp_0 rfl rfl rfl ?_
              refine rx_p (L2 := [some (.ref 0), some (.int a1), some (.int a2), some (.int a3), some (.int a4), some (.int r20), some (.ref 46), none]) (S2 := [.int a2, .ref 106, .int a1, .ref 46]) (pc2 := 104) op108_103 rfl rfl ?_
              obtain ⟨k23, h⟩ := rq_chk h
              refine rx_aa (q := (107 + 2 * a2.toNatClampNeg)) (pc2 := 105) op108_104 sp_106 (by decide) k23 (rn_sheets_at k23) rfl ?_
              refine rx_p (L2 := [some (.ref 0), some (.int a1), some (.int a2), some (.int a3), some (.int a4), some (.int r20), some (.ref 46), none]) (S2 := [.int a4, .ref (107 + 2 * a2.toNatClampNeg), .int a1, .ref 46]) (pc2 := 107) op108_105 rfl rfl ?_
              refine rx_p (L2 := [some (.ref 0), some (.int a1), some (.int a2), some (.int a3), some (.int a4), some (.int r20), some (.ref 46), none]) (S2 := [.ref 0, .int a4, .ref (107 + 2 * a2.toNatClampNeg), .int a1, .ref 46]) (pc2 := 108) op108_107 rfl rfl ?_
              refine rx_gf (v := .ref 3) (pc2 := 111) op108_108 sp_0 rfl rfl rfl ?_
              refine rx_gf (v := .ref 4) (pc2 := 114) op108_111 sp_3 rfl rfl rfl ?_
              obtain ⟨⟨r25, m24⟩, f26, h⟩ := rq_bind h
              try dsimp only at h
              refine ry_iv (p := 4) (vs := []) (T := [.int a4, .ref (107 + 2 * a2.toNatClampNeg), .int a1, .ref 46]) (pc2 := 117) op108_114 ms_23 (by decide) rfl rfl (Nat.le_of_ble_eq_true rfl) (Nat.le_of_ble_eq_true rfl) sp_4 (ga_cards_ok xs (by omega) sa_4 f26) rfl ?_
              show rn_R _ _ _ _ _ [.int r25, .int a4, .ref (107 + 2 * a2.toNatClampNeg), .int a1, .ref 46] _ _ _
              obtain ⟨m27, f28, h⟩ := rq_bind h
              try dsimp only at h
              refine ry_iv (p := 46) (vs := [.int a1, .ref (107 + 2 * a2.toNatClampNeg), .int a4, .int r25]) (T := []) (pc2 := 120) op108_117 ms_112 (by decide) rfl rfl (Nat.le_of_ble_eq_true rfl) (Nat.le_of_ble_eq_true rfl) sp_46 (ro_read_ok xs (by omega) sa_46 (rn_sheets_asm k23) f28) rfl ?_
              show rn_R _ _ _ _ _ [] _ _ _
              refine rx_p (L2 := [some (.ref 0), some (.int a1), some (.int a2), some (.int a3), some (.int a4), some (.int r20), some (.ref 46), none]) (S2 := [.ref 46]) (pc2 := 122) op108_120 rfl rfl ?_
              refine rx_p (L2 := [some (.ref 0), some (.int a1), some (.int a2), some (.int a3), some (.int a4), some (.int r20), some (.ref 46), none]) (S2 := [.ref 0, .ref 46]) (pc2 := 123) op108_122 rfl rfl ?_
              refine rx_gf (v := .ref 3) (pc2 := 126) op108_123 sp_0 rfl rfl rfl ?_
              refine rx_gf (v := .ref 4) (pc2 := 129) op108_126 sp_3 rfl rfl rfl ?_
              obtain ⟨⟨r30, m29⟩, f31, h⟩ := rq_bind h
              try dsimp only at h
              refine ry_iv (p := 46) (vs := [.ref 4]) (T := []) (pc2 := 132) op108_129 ms_113 (by decide) rfl rfl (Nat.le_of_ble_eq_true rfl) (Nat.le_of_ble_eq_true rfl) sp_46 (ro_stranger_ok xs (by omega) sa_46 sa_4 f31) rfl ?_
              show rn_R _ _ _ _ _ [.int r30] _ _ _
              refine rx_s (L2 := [some (.ref 0), some (.int a1), some (.int a2), some (.int a3), some (.int a4), some (.int r20), some (.ref 46), some (.int r30)]) (pc2 := 134) op108_132 rfl rfl rfl ?_
              refine rx_p (L2 := [some (.ref 0), some (.int a1), some (.int a2), some (.int a3), some (.int a4), some (.int r20), some (.ref 46), some (.int r30)]) (S2 := [.int r30]) (pc2 := 136) op108_134 rfl rfl ?_
              refine rx_bp (v := (-4)) (pc2 := 138) op108_136 (by decide) rfl ?_
              obtain ⟨⟨x43, m44⟩, gc48, h⟩ := rq_bind h
              try dsimp only at h
              have c48 : ∀ (o38 o39 o40 o41 o42 : Option Value), rn_R xs (d + 1) 108 171 [some (.ref 0), o38, o39, o40, o41, o42, some (.ref 46), some (.int x43)] [] (rn_SH, m44) (some (.int rO)) (rn_SH, mO) := by
                intro o38 o39 o40 o41 o42
                refine rx_p (L2 := [some (.ref 0), o38, o39, o40, o41, o42, some (.ref 46), some (.int x43)]) (S2 := [.int x43]) (pc2 := 173) op108_171 rfl rfl ?_
                refine rx_bp (v := (-4)) (pc2 := 175) op108_173 (by decide) rfl ?_
                refine ry_ic_ne (tgt := 190) (pc2 := 178) op108_175 (by decide) (by decide) rfl (fun b45 => ?_) (fun b45 => ?_)
                · have h := (if_pos b45).symm.trans h
                  refine rx_p (L2 := [some (.ref 0), o38, o39, o40, o41, o42, some (.ref 46), some (.int x43)]) (S2 := [.ref 0]) (pc2 := 179) op108_178 rfl rfl ?_
                  refine rx_gf (v := .ref 3) (pc2 := 182) op108_179 sp_0 rfl rfl rfl ?_
                  refine rx_gf (v := .ref 14) (pc2 := 185) op108_182 sp_3 rfl rfl rfl ?_
                  refine rx_p (L2 := [some (.ref 0), o38, o39, o40, o41, o42, some (.ref 46), some (.int x43)]) (S2 := [.ref 46, .ref 14]) (pc2 := 187) op108_185 rfl rfl ?_
                  obtain ⟨m46, f47, h⟩ := rq_bind h
                  try dsimp only at h
                  refine ry_iv (p := 14) (vs := [.ref 46]) (T := []) (pc2 := 190) op108_187 ms_120 (by decide) rfl rfl (Nat.le_of_ble_eq_true rfl) (Nat.le_of_ble_eq_true rfl) sp_14 (ro_copy_ok xs (by omega) sa_14 sa_46 f47) rfl ?_
                  show rn_R _ _ _ _ _ [] _ _ _
                  refine rx_p (L2 := [some (.ref 0), o38, o39, o40, o41, o42, some (.ref 46), some (.int x43)]) (S2 := [.int x43]) (pc2 := 192) op108_190 rfl rfl ?_
                  obtain ⟨rfl, rfl⟩ := rq_ret h
                  exact ry_ri op108_192 ms_108 rfl
                · have h := (if_neg b45).symm.trans h
                  refine rx_p (L2 := [some (.ref 0), o38, o39, o40, o41, o42, some (.ref 46), some (.int x43)]) (S2 := [.int x43]) (pc2 := 192) op108_190 rfl rfl ?_
                  obtain ⟨rfl, rfl⟩ := rq_ret h
                  exact ry_ri op108_192 ms_108 rfl
              refine ry_ic_ne (tgt := 171) (pc2 := 141) op108_138 (by decide) (by decide) rfl (fun b32 => ?_) (fun b32 => ?_)
              · have gc48 := (if_pos b32).symm.trans gc48
                refine rx_p (L2 := [some (.ref 0), some (.int a1), some (.int a2), some (.int a3), some (.int a4), some (.int r20), some (.ref 46), some (.int r30)]) (S2 := [.ref 46]) (pc2 := 143) op108_141 rfl rfl ?_
                refine rx_p (L2 := [some (.ref 0), some (.int a1), some (.int a2), some (.int a3), some (.int a4), some (.int r20), some (.ref 46), some (.int r30)]) (S2 := [.ref 0, .ref 46]) (pc2 := 144) op108_143 rfl rfl ?_
                refine rx_gf (v := .ref 3) (pc2 := 147) op108_144 sp_0 rfl rfl rfl ?_
                refine rx_gf (v := .ref 4) (pc2 := 150) op108_147 sp_3 rfl rfl rfl ?_
                obtain ⟨m33, f34, gc48⟩ := rq_bind gc48
                try dsimp only at gc48
                refine ry_iv (p := 46) (vs := [.ref 4]) (T := []) (pc2 := 153) op108_150 ms_114 (by decide) rfl rfl (Nat.le_of_ble_eq_true rfl) (Nat.le_of_ble_eq_true rfl) sp_46 (ro_seat_ok xs (by omega) sa_46 sa_4 f34) rfl ?_
                show rn_R _ _ _ _ _ [] _ _ _
                refine rx_p (L2 := [some (.ref 0), some (.int a1), some (.int a2), some (.int a3), some (.int a4), some (.int r20), some (.ref 46), some (.int r30)]) (S2 := [.ref 0]) (pc2 := 154) op108_153 rfl rfl ?_
                refine rx_gf (v := .ref 102) (pc2 := 157) op108_154 sp_0 rfl rfl rfl ?_
                refine rx_p (L2 := [some (.ref 0), some (.int a1), some (.int a2), some (.int a3), some (.int a4), some (.int r20), some (.ref 46), some (.int r30)]) (S2 := [.ref 0, .ref 102]) (pc2 := 158) op108_157 rfl rfl ?_
                refine rx_gf (v := .ref 3) (pc2 := 161) op108_158 sp_0 rfl rfl rfl ?_
                refine rx_gf (v := .ref 4) (pc2 := 164) op108_161 sp_3 rfl rfl rfl ?_
                refine rx_p (L2 := [some (.ref 0), some (.int a1), some (.int a2), some (.int a3), some (.int a4), some (.int r20), some (.ref 46), some (.int r30)]) (S2 := [.ref 46, .ref 4, .ref 102]) (pc2 := 166) op108_164 rfl rfl ?_
                obtain ⟨⟨r36, m35⟩, f37, gc48⟩ := rq_bind gc48
                try dsimp only at gc48
                refine ry_iv (p := 102) (vs := [.ref 4, .ref 46]) (T := []) (pc2 := 169) op108_166 ms_115 (by decide) rfl rfl (Nat.le_of_ble_eq_true rfl) (Nat.le_of_ble_eq_true rfl) sp_102 (ju_breach_ok xs (by omega) sa_4 sa_46 f37) rfl ?_
                show rn_R _ _ _ _ _ [.int r36] _ _ _
                refine rx_s (L2 := [some (.ref 0), some (.int a1), some (.int a2), some (.int a3), some (.int a4), some (.int r20), some (.ref 46), some (.int r36)]) (pc2 := 171) op108_169 rfl rfl rfl ?_
                cases gc48
                exact c48 _ _ _ _ _
              · have gc48 := (if_neg b32).symm.trans gc48
                cases gc48
                exact c48 _ _ _ _ _
            · have h := (if_neg b22).symm.trans h
              refine rx_p (L2 := [some (.ref 0), some (.int a1), some (.int a2), some (.int a3), some (.int a4), some (.int r20), none, none]) (S2 := [.int r20]) (pc2 := 86) op108_84 rfl rfl ?_
              obtain ⟨rfl, rfl⟩ := rq_ret h
              exact ry_ri op108_86 ms_108 rfl
          · have h := (if_neg b14).symm.trans h
            refine rx_ic (v := (-1)) (pc2 := 54) op108_53 (by decide) rfl ?_
            obtain ⟨rfl, rfl⟩ := rq_ret h
            exact ry_ri op108_54 ms_108 rfl
      · have h := (if_neg b12).symm.trans h
        refine rx_ic (v := (-1)) (pc2 := 22) op108_21 (by decide) rfl ?_
        obtain ⟨rfl, rfl⟩ := rq_ret h
        exact ry_ri op108_22 ms_108 rfl
    · have h := (if_neg b8).symm.trans h
      refine rx_ic (v := (-1)) (pc2 := 22) op108_21 (by decide) rfl ?_
      obtain ⟨rfl, rfl⟩ := rq_ret h
      exact ry_ri op108_22 ms_108 rfl
  · have h := (if_neg b4).symm.trans h
    refine rx_ic (v := (-1)) (pc2 := 22) op108_21 (by decide) rfl ?_
    obtain ⟨rfl, rfl⟩ := rq_ret h
    exact ry_ri op108_22 ms_108 rfl
/-! ro_like -/
theorem op123_0 : rn_op 123 0 = some (.iconst 0, 1, 0, 0, 0) := by decide +kernel
theorem op123_1 : rn_op 123 1 = some (.istore 6, 2, 0, 0, 0) := by decide +kernel
theorem op123_3 : rn_op 123 3 = some (.iconst 0, 1, 0, 0, 0) := by decide +kernel
theorem op123_4 : rn_op 123 4 = some (.istore 7, 2, 0, 0, 0) := by decide +kernel
theorem op123_6 : rn_op 123 6 = some (.iload 7, 2, 0, 0, 0) := by decide +kernel
theorem op123_8 : rn_op 123 8 = some (.aload_n 1, 1, 0, 0, 0) := by decide +kernel
theorem op123_9 : rn_op 123 9 = some (.getfield 49, 3, 1, 1, 0) := by decide +kernel
theorem op123_12 : rn_op 123 12 = some (.if_icmp .ge 26, 3, 0, 0, 0) := by decide +kernel
theorem op123_15 : rn_op 123 15 = some (.iload 6, 2, 0, 0, 0) := by decide +kernel
theorem op123_17 : rn_op 123 17 = some (.iconst 1, 1, 0, 0, 0) := by decide +kernel
theorem op123_18 : rn_op 123 18 = some (.aload_n 0, 1, 0, 0, 0) := by decide +kernel
theorem op123_19 : rn_op 123 19 = some (.getfield 9, 3, 3, 2, 3) := by decide +kernel
theorem op123_22 : rn_op 123 22 = some (.iload 5, 2, 0, 0, 0) := by decide +kernel
theorem op123_24 : rn_op 123 24 = some (.iload 7, 2, 0, 0, 0) := by decide +kernel
theorem op123_26 : rn_op 123 26 = some (.iadd, 1, 0, 0, 0) := by decide +kernel
theorem op123_27 : rn_op 123 27 = some (.iaload, 1, 0, 0, 0) := by decide +kernel
theorem op123_28 : rn_op 123 28 = some (.ishl, 1, 0, 0, 0) := by decide +kernel
theorem op123_29 : rn_op 123 29 = some (.ior, 1, 0, 0, 0) := by decide +kernel
theorem op123_30 : rn_op 123 30 = some (.istore 6, 2, 0, 0, 0) := by decide +kernel
theorem op123_32 : rn_op 123 32 = some (.iinc 7 1, 3, 0, 0, 0) := by decide +kernel
theorem op123_35 : rn_op 123 35 = some (.goto (-29), 3, 0, 0, 0) := by decide +kernel
theorem op123_38 : rn_op 123 38 = some (.iconst 0, 1, 0, 0, 0) := by decide +kernel
theorem op123_39 : rn_op 123 39 = some (.istore 7, 2, 0, 0, 0) := by decide +kernel
theorem op123_41 : rn_op 123 41 = some (.iload 7, 2, 0, 0, 0) := by decide +kernel
theorem op123_43 : rn_op 123 43 = some (.aload_n 1, 1, 0, 0, 0) := by decide +kernel
theorem op123_44 : rn_op 123 44 = some (.getfield 49, 3, 1, 1, 0) := by decide +kernel
theorem op123_47 : rn_op 123 47 = some (.if_icmp .ge 65, 3, 0, 0, 0) := by decide +kernel
theorem op123_50 : rn_op 123 50 = some (.aload_n 2, 1, 0, 0, 0) := by decide +kernel
theorem op123_51 : rn_op 123 51 = some (.iload_n 3, 1, 0, 0, 0) := by decide +kernel
theorem op123_52 : rn_op 123 52 = some (.iload 4, 2, 0, 0, 0) := by decide +kernel
theorem op123_54 : rn_op 123 54 = some (.iload 7, 2, 0, 0, 0) := by decide +kernel
theorem op123_56 : rn_op 123 56 = some (.iadd, 1, 0, 0, 0) := by decide +kernel
theorem op123_57 : rn_op 123 57 = some (.invokevirtual 75, 3, 48, 3, 7) := by decide +kernel
theorem op123_60 : rn_op 123 60 = some (.istore 8, 2, 0, 0, 0) := by decide +kernel
theorem op123_62 : rn_op 123 62 = some (.iload 8, 2, 0, 0, 0) := by decide +kernel
theorem op123_64 : rn_op 123 64 = some (.bipush (-4), 2, 0, 0, 0) := by decide +kernel
theorem op123_66 : rn_op 123 66 = some (.if_icmp .eq 40, 3, 0, 0, 0) := by decide +kernel
theorem op123_69 : rn_op 123 69 = some (.aload_n 1, 1, 0, 0, 0) := by decide +kernel
theorem op123_70 : rn_op 123 70 = some (.getfield 79, 3, 1, 7, 0) := by decide +kernel
theorem op123_73 : rn_op 123 73 = some (.ifCond .ne 21, 3, 0, 0, 0) := by decide +kernel
theorem op123_76 : rn_op 123 76 = some (.iload 8, 2, 0, 0, 0) := by decide +kernel
theorem op123_78 : rn_op 123 78 = some (.aload_n 0, 1, 0, 0, 0) := by decide +kernel
theorem op123_79 : rn_op 123 79 = some (.getfield 9, 3, 3, 2, 3) := by decide +kernel
theorem op123_82 : rn_op 123 82 = some (.iload 5, 2, 0, 0, 0) := by decide +kernel
theorem op123_84 : rn_op 123 84 = some (.iload 7, 2, 0, 0, 0) := by decide +kernel
theorem op123_86 : rn_op 123 86 = some (.iadd, 1, 0, 0, 0) := by decide +kernel
theorem op123_87 : rn_op 123 87 = some (.iaload, 1, 0, 0, 0) := by decide +kernel
theorem op123_88 : rn_op 123 88 = some (.if_icmp .eq 18, 3, 0, 0, 0) := by decide +kernel
theorem op123_91 : rn_op 123 91 = some (.goto 13, 3, 0, 0, 0) := by decide +kernel
theorem op123_94 : rn_op 123 94 = some (.iload 6, 2, 0, 0, 0) := by decide +kernel
theorem op123_96 : rn_op 123 96 = some (.iload 8, 2, 0, 0, 0) := by decide +kernel
theorem op123_98 : rn_op 123 98 = some (.ishr, 1, 0, 0, 0) := by decide +kernel
theorem op123_99 : rn_op 123 99 = some (.iconst 1, 1, 0, 0, 0) := by decide +kernel
theorem op123_100 : rn_op 123 100 = some (.iand, 1, 0, 0, 0) := by decide +kernel
theorem op123_101 : rn_op 123 101 = some (.ifCond .ne 5, 3, 0, 0, 0) := by decide +kernel
theorem op123_104 : rn_op 123 104 = some (.iconst 0, 1, 0, 0, 0) := by decide +kernel
theorem op123_105 : rn_op 123 105 = some (.ireturn, 1, 0, 0, 0) := by decide +kernel
theorem op123_106 : rn_op 123 106 = some (.iinc 7 1, 3, 0, 0, 0) := by decide +kernel
theorem op123_109 : rn_op 123 109 = some (.goto (-68), 3, 0, 0, 0) := by decide +kernel
theorem op123_112 : rn_op 123 112 = some (.iconst 1, 1, 0, 0, 0) := by decide +kernel
theorem op123_113 : rn_op 123 113 = some (.ireturn, 1, 0, 0, 0) := by decide +kernel
def ro_like_l6 (q0 : Nat) (q1 : Nat) (q2 : Nat) (a3 : Int32) (a4 : Int32) (a5 : Int32) : Nat → Int32 → Int32 → rn_Mem → Option (Int32 × rn_Mem)
  | 0, _, _, _ => none
  | n + 1, a6, a7, m =>
    if a7 < (m.1 q1 1) then
      if rn_in (a5 + a7) 12 = true then
        (some (a6 ||| ((1 : Int32) <<< ((m.1 (q0 + 1) (a5 + a7).toNatClampNeg) &&& 31)))).bind fun (x3 : Int32) =>
        (some (a7 + 1)).bind fun (x4 : Int32) =>
        ro_like_l6 q0 q1 q2 a3 a4 a5 n x3 x4 m
      else none
    else
      some (a6, m)
def ro_like_l41 (q0 : Nat) (q1 : Nat) (q2 : Nat) (a3 : Int32) (a4 : Int32) (a5 : Int32) (a6 : Int32) : Nat → Int32 → rn_Mem → Option ((Int32 × rn_Mem) ⊕ (rn_Mem))
  | 0, _, _ => none
  | n + 1, a7, m =>
    if a7 < (m.1 q1 1) then
      (ta_cardAt n q2 a3 (a4 + a7) m).bind fun (r11, m10) =>
      if r11 = (-4) then
        (some (a7 + 1)).bind fun (x18 : Int32) =>
        ro_like_l41 q0 q1 q2 a3 a4 a5 a6 n x18 m10
      else
        if (m10.1 q1 7) = 0 then
          if rn_in (a5 + a7) 12 = true then
            if r11 = (m10.1 (q0 + 1) (a5 + a7).toNatClampNeg) then
              (some (a7 + 1)).bind fun (x22 : Int32) =>
              ro_like_l41 q0 q1 q2 a3 a4 a5 a6 n x22 m10
            else
              some (.inl (0, m10))
          else none
        else
          if ((a6 >>> (r11 &&& 31)) &&& 1) = 0 then
            some (.inl (0, m10))
          else
            (some (a7 + 1)).bind fun (x24 : Int32) =>
            ro_like_l41 q0 q1 q2 a3 a4 a5 a6 n x24 m10
    else
      some (.inr m)
def ro_like (n : Nat) (q0 : Nat) (q1 : Nat) (q2 : Nat) (a3 : Int32) (a4 : Int32) (a5 : Int32) (m : rn_Mem) : Option (Int32 × rn_Mem) :=
  (ro_like_l6 q0 q1 q2 a3 a4 a5 n 0 0 m).bind fun (x6, m5) =>
  (ro_like_l41 q0 q1 q2 a3 a4 a5 x6 n 0 m5).bind fun q => match q with
  | .inl o => some o
  | .inr m25 =>
  some (1, m25)
set_option maxHeartbeats 4000000 in
set_option maxRecDepth 20000 in
theorem ro_like_l6_ok (xs : List Int32) {d : Nat} (hd : 1 ≤ d + 1) {q0 : Nat} {q1 : Nat} {q2 : Nat} {a3 : Int32} {a4 : Int32} {a5 : Int32} {r : Option Value} {τ : rn_H} {out : Int32 × rn_Mem} (hr : ∀ (z6 : Int32) (mO : rn_Mem), out = (z6, mO) → ∀ (o7 o8 : Option Value), rn_R xs (d + 1) 123 38 [some (.ref q0), some (.ref q1), some (.ref q2), some (.int a3), some (.int a4), some (.int a5), some (.int z6), o7, o8] [] (rn_SH, mO) r τ) : ∀ (n : Nat) (a6 : Int32) (a7 : Int32) (o8 : Option Value) (m : rn_Mem), sA_Row q0 → sA_Game q1 → sA_Table q2 → ro_like_l6 q0 q1 q2 a3 a4 a5 n a6 a7 m = some out → rn_R xs (d + 1) 123 6 [some (.ref q0), some (.ref q1), some (.ref q2), some (.int a3), some (.int a4), some (.int a5), some (.int a6), some (.int a7), o8] [] (rn_SH, m) r τ := by
  intro n
  induction n with
  | zero =>
    intro _ _ _ _ _ _ _ h
    cases h
  | succ n ih =>
    intro a6 a7 o8 m hq0 hq1 hq2 h
    unfold ro_like_l6 at h
    try dsimp only at h
    refine rx_p (L2 := [some (.ref q0), some (.ref q1), some (.ref q2), some (.int a3), some (.int a4), some (.int a5), some (.int a6), some (.int a7), o8]) (S2 := [.int a7]) (pc2 := 8) op123_6 rfl rfl ?_
    refine rx_p (L2 := [some (.ref q0), some (.ref q1), some (.ref q2), some (.int a3), some (.int a4), some (.int a5), some (.int a6), some (.int a7), o8]) (S2 := [.ref q1, .int a7]) (pc2 := 9) op123_8 rfl rfl ?_
    refine rx_gf (v := .int (m.1 q1 1)) (pc2 := 12) op123_9 hq1 rfl rfl rfl ?_
    refine ry_ic_ge (tgt := 38) (pc2 := 15) op123_12 (by decide) (by decide) rfl (fun b1 => ?_) (fun b1 => ?_)
    · have h := (if_pos b1).symm.trans h
      refine rx_p (L2 := [some (.ref q0), some (.ref q1), some (.ref q2), some (.int a3), some (.int a4), some (.int a5), some (.int a6), some (.int a7), o8]) (S2 := [.int a6]) (pc2 := 17) op123_15 rfl rfl ?_
      refine rx_ic (v := 1) (pc2 := 18) op123_17 (by decide) rfl ?_
      refine rx_p (L2 := [some (.ref q0), some (.ref q1), some (.ref q2), some (.int a3), some (.int a4), some (.int a5), some (.int a6), some (.int a7), o8]) (S2 := [.ref q0, .int 1, .int a6]) (pc2 := 19) op123_18 rfl rfl ?_
      refine rx_gf (v := .ref (q0 + 1)) (pc2 := 22) op123_19 (hq0.1) rfl rfl rfl ?_
      refine rx_p (L2 := [some (.ref q0), some (.ref q1), some (.ref q2), some (.int a3), some (.int a4), some (.int a5), some (.int a6), some (.int a7), o8]) (S2 := [.int a5, .ref (q0 + 1), .int 1, .int a6]) (pc2 := 24) op123_22 rfl rfl ?_
      refine rx_p (L2 := [some (.ref q0), some (.ref q1), some (.ref q2), some (.int a3), some (.int a4), some (.int a5), some (.int a6), some (.int a7), o8]) (S2 := [.int a7, .int a5, .ref (q0 + 1), .int 1, .int a6]) (pc2 := 26) op123_24 rfl rfl ?_
      refine rx_p (L2 := [some (.ref q0), some (.ref q1), some (.ref q2), some (.int a3), some (.int a4), some (.int a5), some (.int a6), some (.int a7), o8]) (S2 := [.int (a5 + a7), .ref (q0 + 1), .int 1, .int a6]) (pc2 := 27) op123_26 rfl rfl ?_
      obtain ⟨k2, h⟩ := rq_chk h
      refine rx_ia (pc2 := 28) op123_27 (rn_shlt (hq0.2.1)) (hq0.2.1) k2 rfl rfl ?_
      refine rx_p (L2 := [some (.ref q0), some (.ref q1), some (.ref q2), some (.int a3), some (.int a4), some (.int a5), some (.int a6), some (.int a7), o8]) (S2 := [.int ((1 : Int32) <<< ((m.1 (q0 + 1) (a5 + a7).toNatClampNeg) &&& 31)), .int a6]) (pc2 := 29) op123_28 rfl rfl ?_
      refine rx_p (L2 := [some (.ref q0), some (.ref q1), some (.ref q2), some (.int a3), some (.int a4), some (.int a5), some (.int a6), some (.int a7), o8]) (S2 := [.int (a6 ||| ((1 : Int32) <<< ((m.1 (q0 + 1) (a5 + a7).toNatClampNeg) &&& 31)))]) (pc2 := 30) op123_29 rfl rfl ?_
      obtain ⟨x3, ex3, h⟩ := rq_bv h
      refine rx_s (v := x3) (L2 := [some (.ref q0), some (.ref q1), some (.ref q2), some (.int a3), some (.int a4), some (.int a5), some (.int x3), some (.int a7), o8]) (pc2 := 32) op123_30 ex3 rfl rfl ?_
      obtain ⟨x4, ex4, h⟩ := rq_bv h
      refine rx_inc (w := 1) (v := x4) (L2 := [some (.ref q0), some (.ref q1), some (.ref q2), some (.int a3), some (.int a4), some (.int a5), some (.int x3), some (.int x4), o8]) (pc2 := 35) op123_32 rfl (by decide) ex4 rfl rfl ?_
      refine ry_go (tgt := 6) op123_35 (by decide) (by decide) ?_
      exact ih _ _ _ _ hq0 hq1 hq2 h
    · have h := (if_neg b1).symm.trans h
      cases h
      exact hr _ _ rfl _ _
set_option maxHeartbeats 4000000 in
set_option maxRecDepth 20000 in
theorem ro_like_l41_ok (xs : List Int32) {d : Nat} (hd : 1 ≤ d + 1) {q0 : Nat} {q1 : Nat} {q2 : Nat} {a3 : Int32} {a4 : Int32} {a5 : Int32} {a6 : Int32} {r : Option Value} {τ : rn_H} {out : (Int32 × rn_Mem) ⊕ (rn_Mem)} (hl : ∀ (rO : Int32) (mO : rn_Mem), out = .inl (rO, mO) → r = (some (.int rO)) ∧ τ = (rn_SH, mO)) (hr : ∀ (mO : rn_Mem), out = .inr mO → ∀ (o0 o1 o2 o3 o4 o5 o6 o7 o8 : Option Value), rn_R xs (d + 1) 123 112 [o0, o1, o2, o3, o4, o5, o6, o7, o8] [] (rn_SH, mO) r τ) : ∀ (n : Nat) (a7 : Int32) (o8 : Option Value) (m : rn_Mem), sA_Row q0 → sA_Game q1 → sA_Table q2 → ro_like_l41 q0 q1 q2 a3 a4 a5 a6 n a7 m = some out → rn_R xs (d + 1) 123 41 [some (.ref q0), some (.ref q1), some (.ref q2), some (.int a3), some (.int a4), some (.int a5), some (.int a6), some (.int a7), o8] [] (rn_SH, m) r τ := by
  intro n
  induction n with
  | zero =>
    intro _ _ _ _ _ _ h
    cases h
  | succ n ih =>
    intro a7 o8 m hq0 hq1 hq2 h
    unfold ro_like_l41 at h
    try dsimp only at h
    refine rx_p (L2 := [some (.ref q0), some (.ref q1), some (.ref q2), some (.int a3), some (.int a4), some (.int a5), some (.int a6), some (.int a7), o8]) (S2 := [.int a7]) (pc2 := 43) op123_41 rfl rfl ?_
    refine rx_p (L2 := [some (.ref q0), some (.ref q1), some (.ref q2), some (.int a3), some (.int a4), some (.int a5), some (.int a6), some (.int a7), o8]) (S2 := [.ref q1, .int a7]) (pc2 := 44) op123_43 rfl rfl ?_
    refine rx_gf (v := .int (m.1 q1 1)) (pc2 := 47) op123_44 hq1 rfl rfl rfl ?_
    refine ry_ic_ge (tgt := 112) (pc2 := 50) op123_47 (by decide) (by decide) rfl (fun b9 => ?_) (fun b9 => ?_)
    · have h := (if_pos b9).symm.trans h
      refine rx_p (L2 := [some (.ref q0), some (.ref q1), some (.ref q2), some (.int a3), some (.int a4), some (.int a5), some (.int a6), some (.int a7), o8]) (S2 := [.ref q2]) (pc2 := 51) op123_50 rfl rfl ?_
      refine rx_p (L2 := [some (.ref q0), some (.ref q1), some (.ref q2), some (.int a3), some (.int a4), some (.int a5), some (.int a6), some (.int a7), o8]) (S2 := [.int a3, .ref q2]) (pc2 := 52) op123_51 rfl rfl ?_
      refine rx_p (L2 := [some (.ref q0), some (.ref q1), some (.ref q2), some (.int a3), some (.int a4), some (.int a5), some (.int a6), some (.int a7), o8]) (S2 := [.int a4, .int a3, .ref q2]) (pc2 := 54) op123_52 rfl rfl ?_
      refine rx_p (L2 := [some (.ref q0), some (.ref q1), some (.ref q2), some (.int a3), some (.int a4), some (.int a5), some (.int a6), some (.int a7), o8]) (S2 := [.int a7, .int a4, .int a3, .ref q2]) (pc2 := 56) op123_54 rfl rfl ?_
      refine rx_p (L2 := [some (.ref q0), some (.ref q1), some (.ref q2), some (.int a3), some (.int a4), some (.int a5), some (.int a6), some (.int a7), o8]) (S2 := [.int (a4 + a7), .int a3, .ref q2]) (pc2 := 57) op123_56 rfl rfl ?_
      obtain ⟨⟨r11, m10⟩, f12, h⟩ := rq_bind h
      try dsimp only at h
      refine ry_iv (p := q2) (vs := [.int a3, .int (a4 + a7)]) (T := []) (pc2 := 60) op123_57 ms_48 (by decide) rfl rfl (Nat.le_of_ble_eq_true rfl) (Nat.le_of_ble_eq_true rfl) (hq2.1) (ta_cardAt_ok xs (by omega) hq2 f12) rfl ?_
      show rn_R _ _ _ _ _ [.int r11] _ _ _
      refine rx_s (L2 := [some (.ref q0), some (.ref q1), some (.ref q2), some (.int a3), some (.int a4), some (.int a5), some (.int a6), some (.int a7), some (.int r11)]) (pc2 := 62) op123_60 rfl rfl rfl ?_
      refine rx_p (L2 := [some (.ref q0), some (.ref q1), some (.ref q2), some (.int a3), some (.int a4), some (.int a5), some (.int a6), some (.int a7), some (.int r11)]) (S2 := [.int r11]) (pc2 := 64) op123_62 rfl rfl ?_
      refine rx_bp (v := (-4)) (pc2 := 66) op123_64 (by decide) rfl ?_
      refine ry_ic_eq (tgt := 106) (pc2 := 69) op123_66 (by decide) (by decide) rfl (fun b13 => ?_) (fun b13 => ?_)
      · have h := (if_pos b13).symm.trans h
        obtain ⟨x18, ex18, h⟩ := rq_bv h
        refine rx_inc (w := 1) (v := x18) (L2 := [some (.ref q0), some (.ref q1), some (.ref q2), some (.int a3), some (.int a4), some (.int a5), some (.int a6), some (.int x18), some (.int r11)]) (pc2 := 109) op123_106 rfl (by decide) ex18 rfl rfl ?_
        refine ry_go (tgt := 41) op123_109 (by decide) (by decide) ?_
        exact ih _ _ _ hq0 hq1 hq2 h
      · have h := (if_neg b13).symm.trans h
        refine rx_p (L2 := [some (.ref q0), some (.ref q1), some (.ref q2), some (.int a3), some (.int a4), some (.int a5), some (.int a6), some (.int a7), some (.int r11)]) (S2 := [.ref q1]) (pc2 := 70) op123_69 rfl rfl ?_
        refine rx_gf (v := .int (m10.1 q1 7)) (pc2 := 73) op123_70 hq1 rfl rfl rfl ?_
        refine ry_if_ne (tgt := 94) (pc2 := 76) op123_73 (by decide) (by decide) rfl (fun b19 => ?_) (fun b19 => ?_)
        · have h := (if_pos b19).symm.trans h
          refine rx_p (L2 := [some (.ref q0), some (.ref q1), some (.ref q2), some (.int a3), some (.int a4), some (.int a5), some (.int a6), some (.int a7), some (.int r11)]) (S2 := [.int r11]) (pc2 := 78) op123_76 rfl rfl ?_
          refine rx_p (L2 := [some (.ref q0), some (.ref q1), some (.ref q2), some (.int a3), some (.int a4), some (.int a5), some (.int a6), some (.int a7), some (.int r11)]) (S2 := [.ref q0, .int r11]) (pc2 := 79) op123_78 rfl rfl ?_
          refine rx_gf (v := .ref (q0 + 1)) (pc2 := 82) op123_79 (hq0.1) rfl rfl rfl ?_
          refine rx_p (L2 := [some (.ref q0), some (.ref q1), some (.ref q2), some (.int a3), some (.int a4), some (.int a5), some (.int a6), some (.int a7), some (.int r11)]) (S2 := [.int a5, .ref (q0 + 1), .int r11]) (pc2 := 84) op123_82 rfl rfl ?_
          refine rx_p (L2 := [some (.ref q0), some (.ref q1), some (.ref q2), some (.int a3), some (.int a4), some (.int a5), some (.int a6), some (.int a7), some (.int r11)]) (S2 := [.int a7, .int a5, .ref (q0 + 1), .int r11]) (pc2 := 86) op123_84 rfl rfl ?_
          refine rx_p (L2 := [some (.ref q0), some (.ref q1), some (.ref q2), some (.int a3), some (.int a4), some (.int a5), some (.int a6), some (.int a7), some (.int r11)]) (S2 := [.int (a5 + a7), .ref (q0 + 1), .int r11]) (pc2 := 87) op123_86 rfl rfl ?_
          obtain ⟨k20, h⟩ := rq_chk h
          refine rx_ia (pc2 := 88) op123_87 (rn_shlt (hq0.2.1)) (hq0.2.1) k20 rfl rfl ?_
          refine ry_ic_eq (tgt := 106) (pc2 := 91) op123_88 (by decide) (by decide) rfl (fun b21 => ?_) (fun b21 => ?_)
          · have h := (if_pos b21).symm.trans h
            obtain ⟨x22, ex22, h⟩ := rq_bv h
            refine rx_inc (w := 1) (v := x22) (L2 := [some (.ref q0), some (.ref q1), some (.ref q2), some (.int a3), some (.int a4), some (.int a5), some (.int a6), some (.int x22), some (.int r11)]) (pc2 := 109) op123_106 rfl (by decide) ex22 rfl rfl ?_
            refine ry_go (tgt := 41) op123_109 (by decide) (by decide) ?_
            exact ih _ _ _ hq0 hq1 hq2 h
          · have h := (if_neg b21).symm.trans h
            refine ry_go (tgt := 104) op123_91 (by decide) (by decide) ?_
            refine rx_ic (v := 0) (pc2 := 105) op123_104 (by decide) rfl ?_
            cases h
            obtain ⟨rfl, rfl⟩ := hl _ _ rfl
            exact ry_rz (x := 0) op123_105 ms_123 rfl (by decide)
        · have h := (if_neg b19).symm.trans h
          refine rx_p (L2 := [some (.ref q0), some (.ref q1), some (.ref q2), some (.int a3), some (.int a4), some (.int a5), some (.int a6), some (.int a7), some (.int r11)]) (S2 := [.int a6]) (pc2 := 96) op123_94 rfl rfl ?_
          refine rx_p (L2 := [some (.ref q0), some (.ref q1), some (.ref q2), some (.int a3), some (.int a4), some (.int a5), some (.int a6), some (.int a7), some (.int r11)]) (S2 := [.int r11, .int a6]) (pc2 := 98) op123_96 rfl rfl ?_
          refine rx_p (L2 := [some (.ref q0), some (.ref q1), some (.ref q2), some (.int a3), some (.int a4), some (.int a5), some (.int a6), some (.int a7), some (.int r11)]) (S2 := [.int (a6 >>> (r11 &&& 31))]) (pc2 := 99) op123_98 rfl rfl ?_
          refine rx_ic (v := 1) (pc2 := 100) op123_99 (by decide) rfl ?_
          refine rx_p (L2 := [some (.ref q0), some (.ref q1), some (.ref q2), some (.int a3), some (.int a4), some (.int a5), some (.int a6), some (.int a7), some (.int r11)]) (S2 := [.int ((a6 >>> (r11 &&& 31)) &&& 1)]) (pc2 := 101) op123_100 rfl rfl ?_
          refine ry_if_ne (tgt := 106) (pc2 := 104) op123_101 (by decide) (by decide) rfl (fun b23 => ?_) (fun b23 => ?_)
          · have h := (if_pos b23).symm.trans h
            refine rx_ic (v := 0) (pc2 := 105) op123_104 (by decide) rfl ?_
            cases h
            obtain ⟨rfl, rfl⟩ := hl _ _ rfl
            exact ry_rz (x := 0) op123_105 ms_123 rfl (by decide)
          · have h := (if_neg b23).symm.trans h
            obtain ⟨x24, ex24, h⟩ := rq_bv h
            refine rx_inc (w := 1) (v := x24) (L2 := [some (.ref q0), some (.ref q1), some (.ref q2), some (.int a3), some (.int a4), some (.int a5), some (.int a6), some (.int x24), some (.int r11)]) (pc2 := 109) op123_106 rfl (by decide) ex24 rfl rfl ?_
            refine ry_go (tgt := 41) op123_109 (by decide) (by decide) ?_
            exact ih _ _ _ hq0 hq1 hq2 h
    · have h := (if_neg b9).symm.trans h
      cases h
      exact hr _ rfl _ _ _ _ _ _ _ _ _
set_option maxHeartbeats 4000000 in
set_option maxRecDepth 20000 in
theorem ro_like_ok (xs : List Int32) {d : Nat} (hd : 1 ≤ d) {n : Nat} {q0 : Nat} {q1 : Nat} {q2 : Nat} {a3 : Int32} {a4 : Int32} {a5 : Int32} {m mO : rn_Mem} {rO : Int32} (hq0 : sA_Row q0) (hq1 : sA_Game q1) (hq2 : sA_Table q2) (h : ro_like n q0 q1 q2 a3 a4 a5 m = some (rO, mO)) : rn_R xs d 123 0 (rn_ent 9 [.ref q0, .ref q1, .ref q2, .int a3, .int a4, .int a5]) [] (rn_SH, m) (some (.int rO)) (rn_SH, mO) := by
  obtain ⟨d, rfl⟩ : ∃ e, d = e + 1 := ⟨d - 1, by omega⟩
  unfold ro_like at h
  show rn_R xs (d + 1) 123 0 [some (.ref q0), some (.ref q1), some (.ref q2), some (.int a3), some (.int a4), some (.int a5), none, none, none] [] (rn_SH, m) (some (.int rO)) (rn_SH, mO)
  refine rx_ic (v := 0) (pc2 := 1) op123_0 (by decide) rfl ?_
  refine rx_s (L2 := [some (.ref q0), some (.ref q1), some (.ref q2), some (.int a3), some (.int a4), some (.int a5), some (.int 0), none, none]) (pc2 := 3) op123_1 rfl rfl rfl ?_
  refine rx_ic (v := 0) (pc2 := 4) op123_3 (by decide) rfl ?_
  refine rx_s (L2 := [some (.ref q0), some (.ref q1), some (.ref q2), some (.int a3), some (.int a4), some (.int a5), some (.int 0), some (.int 0), none]) (pc2 := 6) op123_4 rfl rfl rfl ?_
  obtain ⟨wf36, f36, h⟩ := rq_bind h
  refine ro_like_l6_ok xs hd (fun x6 m5 eq => ?_) _ _ _ _ _ hq0 hq1 hq2 f36
  subst eq
  try dsimp only at h
  intro o7 o8
  refine rx_ic (v := 0) (pc2 := 39) op123_38 (by decide) rfl ?_
  refine rx_s (L2 := [some (.ref q0), some (.ref q1), some (.ref q2), some (.int a3), some (.int a4), some (.int a5), some (.int x6), some (.int 0), o8]) (pc2 := 41) op123_39 rfl rfl rfl ?_
  obtain ⟨wf35, f35, h⟩ := rq_bind h
  refine ro_like_l41_ok xs hd (fun v0 m0 eq => ?_) (fun m25 eq => ?_) _ _ _ _ hq0 hq1 hq2 f35
  · subst eq
    try dsimp only at h
    cases h
    exact ⟨rfl, rfl⟩
  · subst eq
    try dsimp only at h
    intro o26 o27 o28 o29 o30 o31 o32 o33 o34
    refine rx_ic (v := 1) (pc2 := 113) op123_112 (by decide) rfl ?_
    obtain ⟨rfl, rfl⟩ := rq_ret h
    exact ry_rz (x := 1) op123_113 ms_123 rfl (by decide)
/-! ro_fills -/
theorem op122_0 : rn_op 122 0 = some (.iconst 0, 1, 0, 0, 0) := by decide +kernel
theorem op122_1 : rn_op 122 1 = some (.istore 4, 2, 0, 0, 0) := by decide +kernel
theorem op122_3 : rn_op 122 3 = some (.iconst 0, 1, 0, 0, 0) := by decide +kernel
theorem op122_4 : rn_op 122 4 = some (.istore 5, 2, 0, 0, 0) := by decide +kernel
theorem op122_6 : rn_op 122 6 = some (.iload 5, 2, 0, 0, 0) := by decide +kernel
theorem op122_8 : rn_op 122 8 = some (.aload_n 1, 1, 0, 0, 0) := by decide +kernel
theorem op122_9 : rn_op 122 9 = some (.getfield 46, 3, 1, 2, 0) := by decide +kernel
theorem op122_12 : rn_op 122 12 = some (.if_icmp .ge 64, 3, 0, 0, 0) := by decide +kernel
theorem op122_15 : rn_op 122 15 = some (.iload 5, 2, 0, 0, 0) := by decide +kernel
theorem op122_17 : rn_op 122 17 = some (.aload_n 1, 1, 0, 0, 0) := by decide +kernel
theorem op122_18 : rn_op 122 18 = some (.getfield 49, 3, 1, 1, 0) := by decide +kernel
theorem op122_21 : rn_op 122 21 = some (.imul, 1, 0, 0, 0) := by decide +kernel
theorem op122_22 : rn_op 122 22 = some (.istore 6, 2, 0, 0, 0) := by decide +kernel
theorem op122_24 : rn_op 122 24 = some (.aload_n 0, 1, 0, 0, 0) := by decide +kernel
theorem op122_25 : rn_op 122 25 = some (.getfield 18, 3, 3, 4, 3) := by decide +kernel
theorem op122_28 : rn_op 122 28 = some (.iload 6, 2, 0, 0, 0) := by decide +kernel
theorem op122_30 : rn_op 122 30 = some (.iaload, 1, 0, 0, 0) := by decide +kernel
theorem op122_31 : rn_op 122 31 = some (.iload_n 3, 1, 0, 0, 0) := by decide +kernel
theorem op122_32 : rn_op 122 32 = some (.if_icmp .ne 38, 3, 0, 0, 0) := by decide +kernel
theorem op122_35 : rn_op 122 35 = some (.iload 4, 2, 0, 0, 0) := by decide +kernel
theorem op122_37 : rn_op 122 37 = some (.aload_n 2, 1, 0, 0, 0) := by decide +kernel
theorem op122_38 : rn_op 122 38 = some (.getfield 66, 3, 7, 2, 3) := by decide +kernel
theorem op122_41 : rn_op 122 41 = some (.iload_n 3, 1, 0, 0, 0) := by decide +kernel
theorem op122_42 : rn_op 122 42 = some (.iaload, 1, 0, 0, 0) := by decide +kernel
theorem op122_43 : rn_op 122 43 = some (.if_icmp .ge 22, 3, 0, 0, 0) := by decide +kernel
theorem op122_46 : rn_op 122 46 = some (.aload_n 0, 1, 0, 0, 0) := by decide +kernel
theorem op122_47 : rn_op 122 47 = some (.aload_n 1, 1, 0, 0, 0) := by decide +kernel
theorem op122_48 : rn_op 122 48 = some (.aload_n 2, 1, 0, 0, 0) := by decide +kernel
theorem op122_49 : rn_op 122 49 = some (.iload_n 3, 1, 0, 0, 0) := by decide +kernel
theorem op122_50 : rn_op 122 50 = some (.iload 4, 2, 0, 0, 0) := by decide +kernel
theorem op122_52 : rn_op 122 52 = some (.aload_n 1, 1, 0, 0, 0) := by decide +kernel
theorem op122_53 : rn_op 122 53 = some (.getfield 49, 3, 1, 1, 0) := by decide +kernel
theorem op122_56 : rn_op 122 56 = some (.imul, 1, 0, 0, 0) := by decide +kernel
theorem op122_57 : rn_op 122 57 = some (.iload 6, 2, 0, 0, 0) := by decide +kernel
theorem op122_59 : rn_op 122 59 = some (.invokevirtual 71, 3, 123, 6, 3) := by decide +kernel
theorem op122_62 : rn_op 122 62 = some (.ifCond .ne 5, 3, 0, 0, 0) := by decide +kernel
theorem op122_65 : rn_op 122 65 = some (.iconst 0, 1, 0, 0, 0) := by decide +kernel
theorem op122_66 : rn_op 122 66 = some (.ireturn, 1, 0, 0, 0) := by decide +kernel
theorem op122_67 : rn_op 122 67 = some (.iinc 4 1, 3, 0, 0, 0) := by decide +kernel
theorem op122_70 : rn_op 122 70 = some (.iinc 5 1, 3, 0, 0, 0) := by decide +kernel
theorem op122_73 : rn_op 122 73 = some (.goto (-67), 3, 0, 0, 0) := by decide +kernel
theorem op122_76 : rn_op 122 76 = some (.iload 4, 2, 0, 0, 0) := by decide +kernel
theorem op122_78 : rn_op 122 78 = some (.aload_n 2, 1, 0, 0, 0) := by decide +kernel
theorem op122_79 : rn_op 122 79 = some (.getfield 66, 3, 7, 2, 3) := by decide +kernel
theorem op122_82 : rn_op 122 82 = some (.iload_n 3, 1, 0, 0, 0) := by decide +kernel
theorem op122_83 : rn_op 122 83 = some (.iaload, 1, 0, 0, 0) := by decide +kernel
theorem op122_84 : rn_op 122 84 = some (.if_icmp .ne 7, 3, 0, 0, 0) := by decide +kernel
theorem op122_87 : rn_op 122 87 = some (.iconst 1, 1, 0, 0, 0) := by decide +kernel
theorem op122_88 : rn_op 122 88 = some (.goto 4, 3, 0, 0, 0) := by decide +kernel
theorem op122_91 : rn_op 122 91 = some (.iconst 0, 1, 0, 0, 0) := by decide +kernel
theorem op122_92 : rn_op 122 92 = some (.ireturn, 1, 0, 0, 0) := by decide +kernel
def ro_fills_l6 (q0 : Nat) (q1 : Nat) (q2 : Nat) (a3 : Int32) : Nat → Int32 → Int32 → rn_Mem → Option ((Int32 × rn_Mem) ⊕ (Int32 × rn_Mem))
  | 0, _, _, _ => none
  | n + 1, a4, a5, m =>
    if a5 < (m.1 q1 2) then
      (some (a5 * (m.1 q1 1))).bind fun (x2 : Int32) =>
      if rn_in x2 12 = true then
        if (m.1 (q0 + 3) x2.toNatClampNeg) = a3 then
          if rn_in a3 4 = true then
            if a4 < (m.1 (q2 + 2) a3.toNatClampNeg) then
              (ro_like n q0 q1 q2 a3 (a4 * (m.1 q1 1)) x2 m).bind fun (r15, m14) =>
              if r15 = 0 then
                some (.inl (0, m14))
              else
                (some (a4 + 1)).bind fun (x18 : Int32) =>
                (some (a5 + 1)).bind fun (x19 : Int32) =>
                ro_fills_l6 q0 q1 q2 a3 n x18 x19 m14
            else
              some (.inl (0, m))
          else none
        else
          (some (a5 + 1)).bind fun (x20 : Int32) =>
          ro_fills_l6 q0 q1 q2 a3 n a4 x20 m
      else none
    else
      some (.inr (a4, m))
def ro_fills (n : Nat) (q0 : Nat) (q1 : Nat) (q2 : Nat) (a3 : Int32) (m : rn_Mem) : Option (Int32 × rn_Mem) :=
  (ro_fills_l6 q0 q1 q2 a3 n 0 0 m).bind fun q => match q with
  | .inl o => some o
  | .inr (x24, m21) =>
  if rn_in a3 4 = true then
    if x24 = (m21.1 (q2 + 2) a3.toNatClampNeg) then
      some (1, m21)
    else
      some (0, m21)
  else none
set_option maxHeartbeats 4000000 in
set_option maxRecDepth 20000 in
theorem ro_fills_l6_ok (xs : List Int32) {d : Nat} (hd : 2 ≤ d + 1) {q0 : Nat} {q1 : Nat} {q2 : Nat} {a3 : Int32} {r : Option Value} {τ : rn_H} {out : (Int32 × rn_Mem) ⊕ (Int32 × rn_Mem)} (hl : ∀ (rO : Int32) (mO : rn_Mem), out = .inl (rO, mO) → r = (some (.int rO)) ∧ τ = (rn_SH, mO)) (hr : ∀ (z4 : Int32) (mO : rn_Mem), out = .inr (z4, mO) → ∀ (o0 o1 o5 o6 : Option Value), rn_R xs (d + 1) 122 76 [o0, o1, some (.ref q2), some (.int a3), some (.int z4), o5, o6] [] (rn_SH, mO) r τ) : ∀ (n : Nat) (a4 : Int32) (a5 : Int32) (o6 : Option Value) (m : rn_Mem), sA_Row q0 → sA_Game q1 → sA_Table q2 → ro_fills_l6 q0 q1 q2 a3 n a4 a5 m = some out → rn_R xs (d + 1) 122 6 [some (.ref q0), some (.ref q1), some (.ref q2), some (.int a3), some (.int a4), some (.int a5), o6] [] (rn_SH, m) r τ := by
  intro n
  induction n with
  | zero =>
    intro _ _ _ _ _ _ _ h
    cases h
  | succ n ih =>
    intro a4 a5 o6 m hq0 hq1 hq2 h
    unfold ro_fills_l6 at h
    try dsimp only at h
    refine rx_p (L2 := [some (.ref q0), some (.ref q1), some (.ref q2), some (.int a3), some (.int a4), some (.int a5), o6]) (S2 := [.int a5]) (pc2 := 8) op122_6 rfl rfl ?_
    refine rx_p (L2 := [some (.ref q0), some (.ref q1), some (.ref q2), some (.int a3), some (.int a4), some (.int a5), o6]) (S2 := [.ref q1, .int a5]) (pc2 := 9) op122_8 rfl rfl ?_
    refine rx_gf (v := .int (m.1 q1 2)) (pc2 := 12) op122_9 hq1 rfl rfl rfl ?_
    refine ry_ic_ge (tgt := 76) (pc2 := 15) op122_12 (by decide) (by decide) rfl (fun b1 => ?_) (fun b1 => ?_)
    · have h := (if_pos b1).symm.trans h
      refine rx_p (L2 := [some (.ref q0), some (.ref q1), some (.ref q2), some (.int a3), some (.int a4), some (.int a5), o6]) (S2 := [.int a5]) (pc2 := 17) op122_15 rfl rfl ?_
      refine rx_p (L2 := [some (.ref q0), some (.ref q1), some (.ref q2), some (.int a3), some (.int a4), some (.int a5), o6]) (S2 := [.ref q1, .int a5]) (pc2 := 18) op122_17 rfl rfl ?_
      refine rx_gf (v := .int (m.1 q1 1)) (pc2 := 21) op122_18 hq1 rfl rfl rfl ?_
      refine rx_p (L2 := [some (.ref q0), some (.ref q1), some (.ref q2), some (.int a3), some (.int a4), some (.int a5), o6]) (S2 := [.int (a5 * (m.1 q1 1))]) (pc2 := 22) op122_21 rfl rfl ?_
      obtain ⟨x2, ex2, h⟩ := rq_bv h
      refine rx_s (v := x2) (L2 := [some (.ref q0), some (.ref q1), some (.ref q2), some (.int a3), some (.int a4), some (.int a5), some (.int x2)]) (pc2 := 24) op122_22 ex2 rfl rfl ?_
      refine rx_p (L2 := [some (.ref q0), some (.ref q1), some (.ref q2), some (.int a3), some (.int a4), some (.int a5), some (.int x2)]) (S2 := [.ref q0]) (pc2 := 25) op122_24 rfl rfl ?_
      refine rx_gf (v := .ref (q0 + 3)) (pc2 := 28) op122_25 (hq0.1) rfl rfl rfl ?_
      refine rx_p (L2 := [some (.ref q0), some (.ref q1), some (.ref q2), some (.int a3), some (.int a4), some (.int a5), some (.int x2)]) (S2 := [.int x2, .ref (q0 + 3)]) (pc2 := 30) op122_28 rfl rfl ?_
      obtain ⟨k3, h⟩ := rq_chk h
      refine rx_ia (pc2 := 31) op122_30 (rn_shlt (hq0.2.2.2.1)) (hq0.2.2.2.1) k3 rfl rfl ?_
      refine rx_p (L2 := [some (.ref q0), some (.ref q1), some (.ref q2), some (.int a3), some (.int a4), some (.int a5), some (.int x2)]) (S2 := [.int a3, .int (m.1 (q0 + 3) x2.toNatClampNeg)]) (pc2 := 32) op122_31 rfl rfl ?_
      refine ry_ic_ne (tgt := 70) (pc2 := 35) op122_32 (by decide) (by decide) rfl (fun b4 => ?_) (fun b4 => ?_)
      · have h := (if_pos b4).symm.trans h
        refine rx_p (L2 := [some (.ref q0), some (.ref q1), some (.ref q2), some (.int a3), some (.int a4), some (.int a5), some (.int x2)]) (S2 := [.int a4]) (pc2 := 37) op122_35 rfl rfl ?_
        refine rx_p (L2 := [some (.ref q0), some (.ref q1), some (.ref q2), some (.int a3), some (.int a4), some (.int a5), some (.int x2)]) (S2 := [.ref q2, .int a4]) (pc2 := 38) op122_37 rfl rfl ?_
        refine rx_gf (v := .ref (q2 + 2)) (pc2 := 41) op122_38 (hq2.1) rfl rfl rfl ?_
        refine rx_p (L2 := [some (.ref q0), some (.ref q1), some (.ref q2), some (.int a3), some (.int a4), some (.int a5), some (.int x2)]) (S2 := [.int a3, .ref (q2 + 2), .int a4]) (pc2 := 42) op122_41 rfl rfl ?_
        obtain ⟨k12, h⟩ := rq_chk h
        refine rx_ia (pc2 := 43) op122_42 (rn_shlt (hq2.2.2.1)) (hq2.2.2.1) k12 rfl rfl ?_
        refine ry_ic_ge (tgt := 65) (pc2 := 46) op122_43 (by decide) (by decide) rfl (fun b13 => ?_) (fun b13 => ?_)
        · have h := (if_pos b13).symm.trans h
          refine rx_p (L2 := [some (.ref q0), some (.ref q1), some (.ref q2), some (.int a3), some (.int a4), some (.int a5), some (.int x2)]) (S2 := [.ref q0]) (pc2 := 47) op122_46 rfl rfl ?_
          refine rx_p (L2 := [some (.ref q0), some (.ref q1), some (.ref q2), some (.int a3), some (.int a4), some (.int a5), some (.int x2)]) (S2 := [.ref q1, .ref q0]) (pc2 := 48) op122_47 rfl rfl ?_
          refine rx_p (L2 := [some (.ref q0), some (.ref q1), some (.ref q2), some (.int a3), some (.int a4), some (.int a5), some (.int x2)]) (S2 := [.ref q2, .ref q1, .ref q0]) (pc2 := 49) op122_48 rfl rfl ?_
          refine rx_p (L2 := [some (.ref q0), some (.ref q1), some (.ref q2), some (.int a3), some (.int a4), some (.int a5), some (.int x2)]) (S2 := [.int a3, .ref q2, .ref q1, .ref q0]) (pc2 := 50) op122_49 rfl rfl ?_
          refine rx_p (L2 := [some (.ref q0), some (.ref q1), some (.ref q2), some (.int a3), some (.int a4), some (.int a5), some (.int x2)]) (S2 := [.int a4, .int a3, .ref q2, .ref q1, .ref q0]) (pc2 := 52) op122_50 rfl rfl ?_
          refine rx_p (L2 := [some (.ref q0), some (.ref q1), some (.ref q2), some (.int a3), some (.int a4), some (.int a5), some (.int x2)]) (S2 := [.ref q1, .int a4, .int a3, .ref q2, .ref q1, .ref q0]) (pc2 := 53) op122_52 rfl rfl ?_
          refine rx_gf (v := .int (m.1 q1 1)) (pc2 := 56) op122_53 hq1 rfl rfl rfl ?_
          refine rx_p (L2 := [some (.ref q0), some (.ref q1), some (.ref q2), some (.int a3), some (.int a4), some (.int a5), some (.int x2)]) (S2 := [.int (a4 * (m.1 q1 1)), .int a3, .ref q2, .ref q1, .ref q0]) (pc2 := 57) op122_56 rfl rfl ?_
          refine rx_p (L2 := [some (.ref q0), some (.ref q1), some (.ref q2), some (.int a3), some (.int a4), some (.int a5), some (.int x2)]) (S2 := [.int x2, .int (a4 * (m.1 q1 1)), .int a3, .ref q2, .ref q1, .ref q0]) (pc2 := 59) op122_57 rfl rfl ?_
          obtain ⟨⟨r15, m14⟩, f16, h⟩ := rq_bind h
          try dsimp only at h
          refine ry_iv (p := q0) (vs := [.ref q1, .ref q2, .int a3, .int (a4 * (m.1 q1 1)), .int x2]) (T := []) (pc2 := 62) op122_59 ms_123 (by decide) rfl rfl (Nat.le_of_ble_eq_true rfl) (Nat.le_of_ble_eq_true rfl) (hq0.1) (ro_like_ok xs (by omega) hq0 hq1 hq2 f16) rfl ?_
          show rn_R _ _ _ _ _ [.int r15] _ _ _
          refine ry_if_ne (tgt := 67) (pc2 := 65) op122_62 (by decide) (by decide) rfl (fun b17 => ?_) (fun b17 => ?_)
          · have h := (if_pos b17).symm.trans h
            refine rx_ic (v := 0) (pc2 := 66) op122_65 (by decide) rfl ?_
            cases h
            obtain ⟨rfl, rfl⟩ := hl _ _ rfl
            exact ry_rz (x := 0) op122_66 ms_122 rfl (by decide)
          · have h := (if_neg b17).symm.trans h
            obtain ⟨x18, ex18, h⟩ := rq_bv h
            refine rx_inc (w := 1) (v := x18) (L2 := [some (.ref q0), some (.ref q1), some (.ref q2), some (.int a3), some (.int x18), some (.int a5), some (.int x2)]) (pc2 := 70) op122_67 rfl (by decide) ex18 rfl rfl ?_
            obtain ⟨x19, ex19, h⟩ := rq_bv h
            refine rx_inc (w := 1) (v := x19) (L2 := [some (.ref q0), some (.ref q1), some (.ref q2), some (.int a3), some (.int x18), some (.int x19), some (.int x2)]) (pc2 := 73) op122_70 rfl (by decide) ex19 rfl rfl ?_
            refine ry_go (tgt := 6) op122_73 (by decide) (by decide) ?_
            exact ih _ _ _ _ hq0 hq1 hq2 h
        · have h := (if_neg b13).symm.trans h
          refine rx_ic (v := 0) (pc2 := 66) op122_65 (by decide) rfl ?_
          cases h
          obtain ⟨rfl, rfl⟩ := hl _ _ rfl
          exact ry_rz (x := 0) op122_66 ms_122 rfl (by decide)
      · have h := (if_neg b4).symm.trans h
        obtain ⟨x20, ex20, h⟩ := rq_bv h
        refine rx_inc (w := 1) (v := x20) (L2 := [some (.ref q0), some (.ref q1), some (.ref q2), some (.int a3), some (.int a4), some (.int x20), some (.int x2)]) (pc2 := 73) op122_70 rfl (by decide) ex20 rfl rfl ?_
        refine ry_go (tgt := 6) op122_73 (by decide) (by decide) ?_
        exact ih _ _ _ _ hq0 hq1 hq2 h
    · have h := (if_neg b1).symm.trans h
      cases h
      exact hr _ _ rfl _ _ _ _
set_option maxHeartbeats 4000000 in
set_option maxRecDepth 20000 in
theorem ro_fills_ok (xs : List Int32) {d : Nat} (hd : 2 ≤ d) {n : Nat} {q0 : Nat} {q1 : Nat} {q2 : Nat} {a3 : Int32} {m mO : rn_Mem} {rO : Int32} (hq0 : sA_Row q0) (hq1 : sA_Game q1) (hq2 : sA_Table q2) (h : ro_fills n q0 q1 q2 a3 m = some (rO, mO)) : rn_R xs d 122 0 (rn_ent 7 [.ref q0, .ref q1, .ref q2, .int a3]) [] (rn_SH, m) (some (.int rO)) (rn_SH, mO) := by
  obtain ⟨d, rfl⟩ : ∃ e, d = e + 1 := ⟨d - 1, by omega⟩
  unfold ro_fills at h
  show rn_R xs (d + 1) 122 0 [some (.ref q0), some (.ref q1), some (.ref q2), some (.int a3), none, none, none] [] (rn_SH, m) (some (.int rO)) (rn_SH, mO)
  refine rx_ic (v := 0) (pc2 := 1) op122_0 (by decide) rfl ?_
  refine rx_s (L2 := [some (.ref q0), some (.ref q1), some (.ref q2), some (.int a3), some (.int 0), none, none]) (pc2 := 3) op122_1 rfl rfl rfl ?_
  refine rx_ic (v := 0) (pc2 := 4) op122_3 (by decide) rfl ?_
  refine rx_s (L2 := [some (.ref q0), some (.ref q1), some (.ref q2), some (.int a3), some (.int 0), some (.int 0), none]) (pc2 := 6) op122_4 rfl rfl rfl ?_
  obtain ⟨wf29, f29, h⟩ := rq_bind h
  refine ro_fills_l6_ok xs hd (fun v0 m0 eq => ?_) (fun x24 m21 eq => ?_) _ _ _ _ _ hq0 hq1 hq2 f29
  · subst eq
    try dsimp only at h
    cases h
    exact ⟨rfl, rfl⟩
  · subst eq
    try dsimp only at h
    intro o22 o23 o25 o26
    refine rx_p (L2 := [o22, o23, some (.ref q2), some (.int a3), some (.int x24), o25, o26]) (S2 := [.int x24]) (pc2 := 78) op122_76 rfl rfl ?_
    refine rx_p (L2 := [o22, o23, some (.ref q2), some (.int a3), some (.int x24), o25, o26]) (S2 := [.ref q2, .int x24]) (pc2 := 79) op122_78 rfl rfl ?_
    refine rx_gf (v := .ref (q2 + 2)) (pc2 := 82) op122_79 (hq2.1) rfl rfl rfl ?_
    refine rx_p (L2 := [o22, o23, some (.ref q2), some (.int a3), some (.int x24), o25, o26]) (S2 := [.int a3, .ref (q2 + 2), .int x24]) (pc2 := 83) op122_82 rfl rfl ?_
    obtain ⟨k27, h⟩ := rq_chk h
    refine rx_ia (pc2 := 84) op122_83 (rn_shlt (hq2.2.2.1)) (hq2.2.2.1) k27 rfl rfl ?_
    refine ry_ic_ne (tgt := 91) (pc2 := 87) op122_84 (by decide) (by decide) rfl (fun b28 => ?_) (fun b28 => ?_)
    · have h := (if_pos b28).symm.trans h
      refine rx_ic (v := 1) (pc2 := 88) op122_87 (by decide) rfl ?_
      refine ry_go (tgt := 92) op122_88 (by decide) (by decide) ?_
      obtain ⟨rfl, rfl⟩ := rq_ret h
      exact ry_rz (x := 1) op122_92 ms_122 rfl (by decide)
    · have h := (if_neg b28).symm.trans h
      refine rx_ic (v := 0) (pc2 := 92) op122_91 (by decide) rfl ?_
      obtain ⟨rfl, rfl⟩ := rq_ret h
      exact ry_rz (x := 0) op122_92 ms_122 rfl (by decide)
/-! lt_leaves -/
theorem op121_0 : rn_op 121 0 = some (.aload_n 0, 1, 0, 0, 0) := by decide +kernel
theorem op121_1 : rn_op 121 1 = some (.getfield 19, 3, 10, 1, 3) := by decide +kernel
theorem op121_4 : rn_op 121 4 = some (.getfield 125, 3, 6, 3, 3) := by decide +kernel
theorem op121_7 : rn_op 121 7 = some (.getfield 129, 3, 3, 0, 2) := by decide +kernel
theorem op121_10 : rn_op 121 10 = some (.ifCond .eq 16, 3, 0, 0, 0) := by decide +kernel
theorem op121_13 : rn_op 121 13 = some (.aload_n 0, 1, 0, 0, 0) := by decide +kernel
theorem op121_14 : rn_op 121 14 = some (.getfield 19, 3, 10, 1, 3) := by decide +kernel
theorem op121_17 : rn_op 121 17 = some (.getfield 93, 3, 6, 1, 3) := by decide +kernel
theorem op121_20 : rn_op 121 20 = some (.getfield 136, 3, 7, 0, 2) := by decide +kernel
theorem op121_23 : rn_op 121 23 = some (.ifCond .ne 6, 3, 0, 0, 0) := by decide +kernel
theorem op121_26 : rn_op 121 26 = some (.bipush (-2), 2, 0, 0, 0) := by decide +kernel
theorem op121_28 : rn_op 121 28 = some (.ireturn, 1, 0, 0, 0) := by decide +kernel
theorem op121_29 : rn_op 121 29 = some (.iconst 0, 1, 0, 0, 0) := by decide +kernel
theorem op121_30 : rn_op 121 30 = some (.istore_n 1, 1, 0, 0, 0) := by decide +kernel
theorem op121_31 : rn_op 121 31 = some (.iload_n 1, 1, 0, 0, 0) := by decide +kernel
theorem op121_32 : rn_op 121 32 = some (.aload_n 0, 1, 0, 0, 0) := by decide +kernel
theorem op121_33 : rn_op 121 33 = some (.getfield 19, 3, 10, 1, 3) := by decide +kernel
theorem op121_36 : rn_op 121 36 = some (.getfield 62, 3, 6, 0, 3) := by decide +kernel
theorem op121_39 : rn_op 121 39 = some (.getfield 118, 3, 1, 1, 0) := by decide +kernel
theorem op121_42 : rn_op 121 42 = some (.if_icmp .ge 39, 3, 0, 0, 0) := by decide +kernel
theorem op121_45 : rn_op 121 45 = some (.aload_n 0, 1, 0, 0, 0) := by decide +kernel
theorem op121_46 : rn_op 121 46 = some (.getfield 19, 3, 10, 1, 3) := by decide +kernel
theorem op121_49 : rn_op 121 49 = some (.getfield 125, 3, 6, 3, 3) := by decide +kernel
theorem op121_52 : rn_op 121 52 = some (.aload_n 0, 1, 0, 0, 0) := by decide +kernel
theorem op121_53 : rn_op 121 53 = some (.getfield 19, 3, 10, 1, 3) := by decide +kernel
theorem op121_56 : rn_op 121 56 = some (.getfield 62, 3, 6, 0, 3) := by decide +kernel
theorem op121_59 : rn_op 121 59 = some (.aload_n 0, 1, 0, 0, 0) := by decide +kernel
theorem op121_60 : rn_op 121 60 = some (.getfield 19, 3, 10, 1, 3) := by decide +kernel
theorem op121_63 : rn_op 121 63 = some (.getfield 93, 3, 6, 1, 3) := by decide +kernel
theorem op121_66 : rn_op 121 66 = some (.iload_n 1, 1, 0, 0, 0) := by decide +kernel
theorem op121_67 : rn_op 121 67 = some (.invokevirtual 273, 3, 122, 4, 3) := by decide +kernel
theorem op121_70 : rn_op 121 70 = some (.ifCond .ne 5, 3, 0, 0, 0) := by decide +kernel
theorem op121_73 : rn_op 121 73 = some (.iload_n 1, 1, 0, 0, 0) := by decide +kernel
theorem op121_74 : rn_op 121 74 = some (.ireturn, 1, 0, 0, 0) := by decide +kernel
theorem op121_75 : rn_op 121 75 = some (.iinc 1 1, 3, 0, 0, 0) := by decide +kernel
theorem op121_78 : rn_op 121 78 = some (.goto (-47), 3, 0, 0, 0) := by decide +kernel
theorem op121_81 : rn_op 121 81 = some (.aload_n 0, 1, 0, 0, 0) := by decide +kernel
theorem op121_82 : rn_op 121 82 = some (.getfield 19, 3, 10, 1, 3) := by decide +kernel
theorem op121_85 : rn_op 121 85 = some (.getfield 62, 3, 6, 0, 3) := by decide +kernel
theorem op121_88 : rn_op 121 88 = some (.getfield 277, 3, 1, 8, 0) := by decide +kernel
theorem op121_91 : rn_op 121 91 = some (.istore_n 1, 1, 0, 0, 0) := by decide +kernel
theorem op121_92 : rn_op 121 92 = some (.iload_n 1, 1, 0, 0, 0) := by decide +kernel
theorem op121_93 : rn_op 121 93 = some (.ifCond .lt 21, 3, 0, 0, 0) := by decide +kernel
theorem op121_96 : rn_op 121 96 = some (.iload_n 1, 1, 0, 0, 0) := by decide +kernel
theorem op121_97 : rn_op 121 97 = some (.aload_n 0, 1, 0, 0, 0) := by decide +kernel
theorem op121_98 : rn_op 121 98 = some (.getfield 19, 3, 10, 1, 3) := by decide +kernel
theorem op121_101 : rn_op 121 101 = some (.getfield 125, 3, 6, 3, 3) := by decide +kernel
theorem op121_104 : rn_op 121 104 = some (.getfield 280, 3, 3, 1, 0) := by decide +kernel
theorem op121_107 : rn_op 121 107 = some (.if_icmp .eq 7, 3, 0, 0, 0) := by decide +kernel
theorem op121_110 : rn_op 121 110 = some (.iconst 4, 1, 0, 0, 0) := by decide +kernel
theorem op121_111 : rn_op 121 111 = some (.goto 5, 3, 0, 0, 0) := by decide +kernel
theorem op121_114 : rn_op 121 114 = some (.bipush (-4), 2, 0, 0, 0) := by decide +kernel
theorem op121_116 : rn_op 121 116 = some (.ireturn, 1, 0, 0, 0) := by decide +kernel
def lt_leaves_l31  : Nat → Int32 → rn_Mem → Option ((Int32 × rn_Mem) ⊕ (rn_Mem))
  | 0, _, _ => none
  | n + 1, a1, m =>
    if a1 < (m.1 4 1) then
      (ro_fills n 14 4 5 a1 m).bind fun (r5, m4) =>
      if r5 = 0 then
        some (.inl (a1, m4))
      else
        (some (a1 + 1)).bind fun (x8 : Int32) =>
        lt_leaves_l31 n x8 m4
    else
      some (.inr m)
def lt_leaves (n : Nat)  (m : rn_Mem) : Option (Int32 × rn_Mem) :=
  if (m.1 14 0) = 0 then
    some ((-2), m)
  else
    if (m.1 5 0) = 0 then
      some ((-2), m)
    else
      (lt_leaves_l31 n 0 m).bind fun q => match q with
      | .inl o => some o
      | .inr m9 =>
      (some (m9.1 4 8)).bind fun (x11 : Int32) =>
      if x11 < 0 then
        some ((-4), m9)
      else
        if x11 = (m9.1 14 1) then
          some ((-4), m9)
        else
          some (4, m9)
set_option maxHeartbeats 4000000 in
set_option maxRecDepth 20000 in
theorem lt_leaves_l31_ok (xs : List Int32) {d : Nat} (hd : 3 ≤ d + 1) {r : Option Value} {τ : rn_H} {out : (Int32 × rn_Mem) ⊕ (rn_Mem)} (hl : ∀ (rO : Int32) (mO : rn_Mem), out = .inl (rO, mO) → r = (some (.int rO)) ∧ τ = (rn_SH, mO)) (hr : ∀ (mO : rn_Mem), out = .inr mO → ∀ (o1 : Option Value), rn_R xs (d + 1) 121 81 [some (.ref 0), o1] [] (rn_SH, mO) r τ) : ∀ (n : Nat) (a1 : Int32) (m : rn_Mem), lt_leaves_l31 n a1 m = some out → rn_R xs (d + 1) 121 31 [some (.ref 0), some (.int a1)] [] (rn_SH, m) r τ := by
  intro n
  induction n with
  | zero =>
    intro _ _ h
    cases h
  | succ n ih =>
    intro a1 m h
    unfold lt_leaves_l31 at h
    try dsimp only at h
    refine rx_p (L2 := [some (.ref 0), some (.int a1)]) (S2 := [.int a1]) (pc2 := 32) op121_31 rfl rfl ?_
    refine rx_p (L2 := [some (.ref 0), some (.int a1)]) (S2 := [.ref 0, .int a1]) (pc2 := 33) op121_32 rfl rfl ?_
    refine rx_gf (v := .ref 3) (pc2 := 36) op121_33 sp_0 rfl rfl rfl ?_
    refine rx_gf (v := .ref 4) (pc2 := 39) op121_36 sp_3 rfl rfl rfl ?_
    refine rx_gf (v := .int (m.1 4 1)) (pc2 := 42) op121_39 sp_4 rfl rfl rfl ?_
    refine ry_ic_ge (tgt := 81) (pc2 := 45) op121_42 (by decide) (by decide) rfl (fun b3 => ?_) (fun b3 => ?_)
    · have h := (if_pos b3).symm.trans h
      refine rx_p (L2 := [some (.ref 0), some (.int a1)]) (S2 := [.ref 0]) (pc2 := 46) op121_45 rfl rfl ?_
      refine rx_gf (v := .ref 3) (pc2 := 49) op121_46 sp_0 rfl rfl rfl ?_
      refine rx_gf (v := .ref 14) (pc2 := 52) op121_49 sp_3 rfl rfl rfl ?_
      refine rx_p (L2 := [some (.ref 0), some (.int a1)]) (S2 := [.ref 0, .ref 14]) (pc2 := 53) op121_52 rfl rfl ?_
      refine rx_gf (v := .ref 3) (pc2 := 56) op121_53 sp_0 rfl rfl rfl ?_
      refine rx_gf (v := .ref 4) (pc2 := 59) op121_56 sp_3 rfl rfl rfl ?_
      refine rx_p (L2 := [some (.ref 0), some (.int a1)]) (S2 := [.ref 0, .ref 4, .ref 14]) (pc2 := 60) op121_59 rfl rfl ?_
      refine rx_gf (v := .ref 3) (pc2 := 63) op121_60 sp_0 rfl rfl rfl ?_
      refine rx_gf (v := .ref 5) (pc2 := 66) op121_63 sp_3 rfl rfl rfl ?_
      refine rx_p (L2 := [some (.ref 0), some (.int a1)]) (S2 := [.int a1, .ref 5, .ref 4, .ref 14]) (pc2 := 67) op121_66 rfl rfl ?_
      obtain ⟨⟨r5, m4⟩, f6, h⟩ := rq_bind h
      try dsimp only at h
      refine ry_iv (p := 14) (vs := [.ref 4, .ref 5, .int a1]) (T := []) (pc2 := 70) op121_67 ms_122 (by decide) rfl rfl (Nat.le_of_ble_eq_true rfl) (Nat.le_of_ble_eq_true rfl) sp_14 (ro_fills_ok xs (by omega) sa_14 sa_4 sa_5 f6) rfl ?_
      show rn_R _ _ _ _ _ [.int r5] _ _ _
      refine ry_if_ne (tgt := 75) (pc2 := 73) op121_70 (by decide) (by decide) rfl (fun b7 => ?_) (fun b7 => ?_)
      · have h := (if_pos b7).symm.trans h
        refine rx_p (L2 := [some (.ref 0), some (.int a1)]) (S2 := [.int a1]) (pc2 := 74) op121_73 rfl rfl ?_
        cases h
        obtain ⟨rfl, rfl⟩ := hl _ _ rfl
        exact ry_ri op121_74 ms_121 rfl
      · have h := (if_neg b7).symm.trans h
        obtain ⟨x8, ex8, h⟩ := rq_bv h
        refine rx_inc (w := 1) (v := x8) (L2 := [some (.ref 0), some (.int x8)]) (pc2 := 78) op121_75 rfl (by decide) ex8 rfl rfl ?_
        refine ry_go (tgt := 31) op121_78 (by decide) (by decide) ?_
        exact ih _ _ h
    · have h := (if_neg b3).symm.trans h
      cases h
      exact hr _ rfl _
set_option maxHeartbeats 4000000 in
set_option maxRecDepth 20000 in
theorem lt_leaves_ok (xs : List Int32) {d : Nat} (hd : 3 ≤ d) {n : Nat} {m mO : rn_Mem} {rO : Int32} (h : lt_leaves n  m = some (rO, mO)) : rn_R xs d 121 0 (rn_ent 2 [.ref 0]) [] (rn_SH, m) (some (.int rO)) (rn_SH, mO) := by
  obtain ⟨d, rfl⟩ : ∃ e, d = e + 1 := ⟨d - 1, by omega⟩
  unfold lt_leaves at h
  show rn_R xs (d + 1) 121 0 [some (.ref 0), none] [] (rn_SH, m) (some (.int rO)) (rn_SH, mO)
  refine rx_p (L2 := [some (.ref 0), none]) (S2 := [.ref 0]) (pc2 := 1) op121_0 rfl rfl ?_
  refine rx_gf (v := .ref 3) (pc2 := 4) op121_1 sp_0 rfl rfl rfl ?_
  refine rx_gf (v := .ref 14) (pc2 := 7) op121_4 sp_3 rfl rfl rfl ?_
  refine rx_gf (v := .int (m.1 14 0)) (pc2 := 10) op121_7 sp_14 rfl rfl rfl ?_
  refine ry_if_eq (tgt := 26) (pc2 := 13) op121_10 (by decide) (by decide) rfl (fun b1 => ?_) (fun b1 => ?_)
  · have h := (if_pos b1).symm.trans h
    refine rx_bp (v := (-2)) (pc2 := 28) op121_26 (by decide) rfl ?_
    obtain ⟨rfl, rfl⟩ := rq_ret h
    exact ry_ri op121_28 ms_121 rfl
  · have h := (if_neg b1).symm.trans h
    refine rx_p (L2 := [some (.ref 0), none]) (S2 := [.ref 0]) (pc2 := 14) op121_13 rfl rfl ?_
    refine rx_gf (v := .ref 3) (pc2 := 17) op121_14 sp_0 rfl rfl rfl ?_
    refine rx_gf (v := .ref 5) (pc2 := 20) op121_17 sp_3 rfl rfl rfl ?_
    refine rx_gf (v := .int (m.1 5 0)) (pc2 := 23) op121_20 sp_5 rfl rfl rfl ?_
    refine ry_if_ne (tgt := 29) (pc2 := 26) op121_23 (by decide) (by decide) rfl (fun b2 => ?_) (fun b2 => ?_)
    · have h := (if_pos b2).symm.trans h
      refine rx_bp (v := (-2)) (pc2 := 28) op121_26 (by decide) rfl ?_
      obtain ⟨rfl, rfl⟩ := rq_ret h
      exact ry_ri op121_28 ms_121 rfl
    · have h := (if_neg b2).symm.trans h
      refine rx_ic (v := 0) (pc2 := 30) op121_29 (by decide) rfl ?_
      refine rx_s (L2 := [some (.ref 0), some (.int 0)]) (pc2 := 31) op121_30 rfl rfl rfl ?_
      obtain ⟨wf14, f14, h⟩ := rq_bind h
      refine lt_leaves_l31_ok xs hd (fun v0 m0 eq => ?_) (fun m9 eq => ?_) _ _ _  f14
      · subst eq
        try dsimp only at h
        cases h
        exact ⟨rfl, rfl⟩
      · subst eq
        try dsimp only at h
        intro o10
        refine rx_p (L2 := [some (.ref 0), o10]) (S2 := [.ref 0]) (pc2 := 82) op121_81 rfl rfl ?_
        refine rx_gf (v := .ref 3) (pc2 := 85) op121_82 sp_0 rfl rfl rfl ?_
        refine rx_gf (v := .ref 4) (pc2 := 88) op121_85 sp_3 rfl rfl rfl ?_
        refine rx_gf (v := .int (m9.1 4 8)) (pc2 := 91) op121_88 sp_4 rfl rfl rfl ?_
        obtain ⟨x11, ex11, h⟩ := rq_bv h
        refine rx_s (v := x11) (L2 := [some (.ref 0), some (.int x11)]) (pc2 := 92) op121_91 ex11 rfl rfl ?_
        refine rx_p (L2 := [some (.ref 0), some (.int x11)]) (S2 := [.int x11]) (pc2 := 93) op121_92 rfl rfl ?_
        refine ry_if_lt (tgt := 114) (pc2 := 96) op121_93 (by decide) (by decide) rfl (fun b12 => ?_) (fun b12 => ?_)
        · have h := (if_pos b12).symm.trans h
          refine rx_bp (v := (-4)) (pc2 := 116) op121_114 (by decide) rfl ?_
          obtain ⟨rfl, rfl⟩ := rq_ret h
          exact ry_ri op121_116 ms_121 rfl
        · have h := (if_neg b12).symm.trans h
          refine rx_p (L2 := [some (.ref 0), some (.int x11)]) (S2 := [.int x11]) (pc2 := 97) op121_96 rfl rfl ?_
          refine rx_p (L2 := [some (.ref 0), some (.int x11)]) (S2 := [.ref 0, .int x11]) (pc2 := 98) op121_97 rfl rfl ?_
          refine rx_gf (v := .ref 3) (pc2 := 101) op121_98 sp_0 rfl rfl rfl ?_
          refine rx_gf (v := .ref 14) (pc2 := 104) op121_101 sp_3 rfl rfl rfl ?_
          refine rx_gf (v := .int (m9.1 14 1)) (pc2 := 107) op121_104 sp_14 rfl rfl rfl ?_
          refine ry_ic_eq (tgt := 114) (pc2 := 110) op121_107 (by decide) (by decide) rfl (fun b13 => ?_) (fun b13 => ?_)
          · have h := (if_pos b13).symm.trans h
            refine rx_bp (v := (-4)) (pc2 := 116) op121_114 (by decide) rfl ?_
            obtain ⟨rfl, rfl⟩ := rq_ret h
            exact ry_ri op121_116 ms_121 rfl
          · have h := (if_neg b13).symm.trans h
            refine rx_ic (v := 4) (pc2 := 111) op121_110 (by decide) rfl ?_
            refine ry_go (tgt := 116) op121_111 (by decide) (by decide) ?_
            obtain ⟨rfl, rfl⟩ := rq_ret h
            exact ry_ri op121_116 ms_121 rfl
/-! lt_who -/
theorem op124_0 : rn_op 124 0 = some (.iload_n 1, 1, 0, 0, 0) := by decide +kernel
theorem op124_1 : rn_op 124 1 = some (.ifCond .lt 18, 3, 0, 0, 0) := by decide +kernel
theorem op124_4 : rn_op 124 4 = some (.iload_n 1, 1, 0, 0, 0) := by decide +kernel
theorem op124_5 : rn_op 124 5 = some (.bipush 12, 2, 0, 0, 0) := by decide +kernel
theorem op124_7 : rn_op 124 7 = some (.if_icmp .ge 12, 3, 0, 0, 0) := by decide +kernel
theorem op124_10 : rn_op 124 10 = some (.iload_n 2, 1, 0, 0, 0) := by decide +kernel
theorem op124_11 : rn_op 124 11 = some (.ifCond .lt 8, 3, 0, 0, 0) := by decide +kernel
theorem op124_14 : rn_op 124 14 = some (.iload_n 2, 1, 0, 0, 0) := by decide +kernel
theorem op124_15 : rn_op 124 15 = some (.iconst 1, 1, 0, 0, 0) := by decide +kernel
theorem op124_16 : rn_op 124 16 = some (.if_icmp .le 5, 3, 0, 0, 0) := by decide +kernel
theorem op124_19 : rn_op 124 19 = some (.iconst (-1), 1, 0, 0, 0) := by decide +kernel
theorem op124_20 : rn_op 124 20 = some (.ireturn, 1, 0, 0, 0) := by decide +kernel
theorem op124_21 : rn_op 124 21 = some (.aload_n 0, 1, 0, 0, 0) := by decide +kernel
theorem op124_22 : rn_op 124 22 = some (.getfield 19, 3, 10, 1, 3) := by decide +kernel
theorem op124_25 : rn_op 124 25 = some (.getfield 125, 3, 6, 3, 3) := by decide +kernel
theorem op124_28 : rn_op 124 28 = some (.getfield 129, 3, 3, 0, 2) := by decide +kernel
theorem op124_31 : rn_op 124 31 = some (.ifCond .ne 6, 3, 0, 0, 0) := by decide +kernel
theorem op124_34 : rn_op 124 34 = some (.bipush (-2), 2, 0, 0, 0) := by decide +kernel
theorem op124_36 : rn_op 124 36 = some (.ireturn, 1, 0, 0, 0) := by decide +kernel
theorem op124_37 : rn_op 124 37 = some (.iload_n 1, 1, 0, 0, 0) := by decide +kernel
theorem op124_38 : rn_op 124 38 = some (.aload_n 0, 1, 0, 0, 0) := by decide +kernel
theorem op124_39 : rn_op 124 39 = some (.getfield 19, 3, 10, 1, 3) := by decide +kernel
theorem op124_42 : rn_op 124 42 = some (.getfield 62, 3, 6, 0, 3) := by decide +kernel
theorem op124_45 : rn_op 124 45 = some (.invokevirtual 84, 3, 23, 1, 1) := by decide +kernel
theorem op124_48 : rn_op 124 48 = some (.if_icmp .lt 5, 3, 0, 0, 0) := by decide +kernel
theorem op124_51 : rn_op 124 51 = some (.iconst (-1), 1, 0, 0, 0) := by decide +kernel
theorem op124_52 : rn_op 124 52 = some (.ireturn, 1, 0, 0, 0) := by decide +kernel
theorem op124_53 : rn_op 124 53 = some (.iload_n 2, 1, 0, 0, 0) := by decide +kernel
theorem op124_54 : rn_op 124 54 = some (.ifCond .ne 18, 3, 0, 0, 0) := by decide +kernel
theorem op124_57 : rn_op 124 57 = some (.aload_n 0, 1, 0, 0, 0) := by decide +kernel
theorem op124_58 : rn_op 124 58 = some (.getfield 19, 3, 10, 1, 3) := by decide +kernel
theorem op124_61 : rn_op 124 61 = some (.getfield 125, 3, 6, 3, 3) := by decide +kernel
theorem op124_64 : rn_op 124 64 = some (.getfield 281, 3, 3, 3, 3) := by decide +kernel
theorem op124_67 : rn_op 124 67 = some (.iload_n 1, 1, 0, 0, 0) := by decide +kernel
theorem op124_68 : rn_op 124 68 = some (.iaload, 1, 0, 0, 0) := by decide +kernel
theorem op124_69 : rn_op 124 69 = some (.goto 15, 3, 0, 0, 0) := by decide +kernel
theorem op124_72 : rn_op 124 72 = some (.aload_n 0, 1, 0, 0, 0) := by decide +kernel
theorem op124_73 : rn_op 124 73 = some (.getfield 19, 3, 10, 1, 3) := by decide +kernel
theorem op124_76 : rn_op 124 76 = some (.getfield 125, 3, 6, 3, 3) := by decide +kernel
theorem op124_79 : rn_op 124 79 = some (.getfield 284, 3, 3, 4, 3) := by decide +kernel
theorem op124_82 : rn_op 124 82 = some (.iload_n 1, 1, 0, 0, 0) := by decide +kernel
theorem op124_83 : rn_op 124 83 = some (.iaload, 1, 0, 0, 0) := by decide +kernel
theorem op124_84 : rn_op 124 84 = some (.ireturn, 1, 0, 0, 0) := by decide +kernel
def lt_who (n : Nat) (a1 : Int32) (a2 : Int32) (m : rn_Mem) : Option (Int32 × rn_Mem) :=
  if a1 < 0 then
    some ((-1), m)
  else
    if a1 < 12 then
      if a2 < 0 then
        some ((-1), m)
      else
        if 1 < a2 then
          some ((-1), m)
        else
          if (m.1 14 0) = 0 then
            some ((-2), m)
          else
            (ga_cards n 4 m).bind fun (r7, m6) =>
            if a1 < r7 then
              if a2 = 0 then
                if rn_in a1 12 = true then
                  some (m6.1 16 a1.toNatClampNeg, m6)
                else none
              else
                if rn_in a1 12 = true then
                  some (m6.1 17 a1.toNatClampNeg, m6)
                else none
            else
              some ((-1), m6)
    else
      some ((-1), m)
set_option maxHeartbeats 4000000 in
set_option maxRecDepth 20000 in
theorem lt_who_ok (xs : List Int32) {d : Nat} (hd : 1 ≤ d) {n : Nat} {a1 : Int32} {a2 : Int32} {m mO : rn_Mem} {rO : Int32} (h : lt_who n a1 a2 m = some (rO, mO)) : rn_R xs d 124 0 (rn_ent 3 [.ref 0, .int a1, .int a2]) [] (rn_SH, m) (some (.int rO)) (rn_SH, mO) := by
  obtain ⟨d, rfl⟩ : ∃ e, d = e + 1 := ⟨d - 1, by omega⟩
  unfold lt_who at h
  show rn_R xs (d + 1) 124 0 [some (.ref 0), some (.int a1), some (.int a2)] [] (rn_SH, m) (some (.int rO)) (rn_SH, mO)
  refine rx_p (L2 := [some (.ref 0), some (.int a1), some (.int a2)]) (S2 := [.int a1]) (pc2 := 1) op124_0 rfl rfl ?_
  refine ry_if_lt (tgt := 19) (pc2 := 4) op124_1 (by decide) (by decide) rfl (fun b1 => ?_) (fun b1 => ?_)
  · have h := (if_pos b1).symm.trans h
    refine rx_ic (v := (-1)) (pc2 := 20) op124_19 (by decide) rfl ?_
    obtain ⟨rfl, rfl⟩ := rq_ret h
    exact ry_ri op124_20 ms_124 rfl
  · have h := (if_neg b1).symm.trans h
    refine rx_p (L2 := [some (.ref 0), some (.int a1), some (.int a2)]) (S2 := [.int a1]) (pc2 := 5) op124_4 rfl rfl ?_
    refine rx_bp (v := 12) (pc2 := 7) op124_5 (by decide) rfl ?_
    refine ry_ic_ge (tgt := 19) (pc2 := 10) op124_7 (by decide) (by decide) rfl (fun b2 => ?_) (fun b2 => ?_)
    · have h := (if_pos b2).symm.trans h
      refine rx_p (L2 := [some (.ref 0), some (.int a1), some (.int a2)]) (S2 := [.int a2]) (pc2 := 11) op124_10 rfl rfl ?_
      refine ry_if_lt (tgt := 19) (pc2 := 14) op124_11 (by decide) (by decide) rfl (fun b3 => ?_) (fun b3 => ?_)
      · have h := (if_pos b3).symm.trans h
        refine rx_ic (v := (-1)) (pc2 := 20) op124_19 (by decide) rfl ?_
        obtain ⟨rfl, rfl⟩ := rq_ret h
        exact ry_ri op124_20 ms_124 rfl
      · have h := (if_neg b3).symm.trans h
        refine rx_p (L2 := [some (.ref 0), some (.int a1), some (.int a2)]) (S2 := [.int a2]) (pc2 := 15) op124_14 rfl rfl ?_
        refine rx_ic (v := 1) (pc2 := 16) op124_15 (by decide) rfl ?_
        refine ry_ic_le (tgt := 21) (pc2 := 19) op124_16 (by decide) (by decide) rfl (fun b4 => ?_) (fun b4 => ?_)
        · have h := (if_pos b4).symm.trans h
          refine rx_ic (v := (-1)) (pc2 := 20) op124_19 (by decide) rfl ?_
          obtain ⟨rfl, rfl⟩ := rq_ret h
          exact ry_ri op124_20 ms_124 rfl
        · have h := (if_neg b4).symm.trans h
          refine rx_p (L2 := [some (.ref 0), some (.int a1), some (.int a2)]) (S2 := [.ref 0]) (pc2 := 22) op124_21 rfl rfl ?_
          refine rx_gf (v := .ref 3) (pc2 := 25) op124_22 sp_0 rfl rfl rfl ?_
          refine rx_gf (v := .ref 14) (pc2 := 28) op124_25 sp_3 rfl rfl rfl ?_
          refine rx_gf (v := .int (m.1 14 0)) (pc2 := 31) op124_28 sp_14 rfl rfl rfl ?_
          refine ry_if_ne (tgt := 37) (pc2 := 34) op124_31 (by decide) (by decide) rfl (fun b5 => ?_) (fun b5 => ?_)
          · have h := (if_pos b5).symm.trans h
            refine rx_bp (v := (-2)) (pc2 := 36) op124_34 (by decide) rfl ?_
            obtain ⟨rfl, rfl⟩ := rq_ret h
            exact ry_ri op124_36 ms_124 rfl
          · have h := (if_neg b5).symm.trans h
            refine rx_p (L2 := [some (.ref 0), some (.int a1), some (.int a2)]) (S2 := [.int a1]) (pc2 := 38) op124_37 rfl rfl ?_
            refine rx_p (L2 := [some (.ref 0), some (.int a1), some (.int a2)]) (S2 := [.ref 0, .int a1]) (pc2 := 39) op124_38 rfl rfl ?_
            refine rx_gf (v := .ref 3) (pc2 := 42) op124_39 sp_0 rfl rfl rfl ?_
            refine rx_gf (v := .ref 4) (pc2 := 45) op124_42 sp_3 rfl rfl rfl ?_
            obtain ⟨⟨r7, m6⟩, f8, h⟩ := rq_bind h
            try dsimp only at h
            refine ry_iv (p := 4) (vs := []) (T := [.int a1]) (pc2 := 48) op124_45 ms_23 (by decide) rfl rfl (Nat.le_of_ble_eq_true rfl) (Nat.le_of_ble_eq_true rfl) sp_4 (ga_cards_ok xs (by omega) sa_4 f8) rfl ?_
            show rn_R _ _ _ _ _ [.int r7, .int a1] _ _ _
            refine ry_ic_lt (tgt := 53) (pc2 := 51) op124_48 (by decide) (by decide) rfl (fun b9 => ?_) (fun b9 => ?_)
            · have h := (if_pos b9).symm.trans h
              refine rx_p (L2 := [some (.ref 0), some (.int a1), some (.int a2)]) (S2 := [.int a2]) (pc2 := 54) op124_53 rfl rfl ?_
              refine ry_if_ne (tgt := 72) (pc2 := 57) op124_54 (by decide) (by decide) rfl (fun b10 => ?_) (fun b10 => ?_)
              · have h := (if_pos b10).symm.trans h
                refine rx_p (L2 := [some (.ref 0), some (.int a1), some (.int a2)]) (S2 := [.ref 0]) (pc2 := 58) op124_57 rfl rfl ?_
                refine rx_gf (v := .ref 3) (pc2 := 61) op124_58 sp_0 rfl rfl rfl ?_
                refine rx_gf (v := .ref 14) (pc2 := 64) op124_61 sp_3 rfl rfl rfl ?_
                refine rx_gf (v := .ref 16) (pc2 := 67) op124_64 sp_14 rfl rfl rfl ?_
                refine rx_p (L2 := [some (.ref 0), some (.int a1), some (.int a2)]) (S2 := [.int a1, .ref 16]) (pc2 := 68) op124_67 rfl rfl ?_
                obtain ⟨k11, h⟩ := rq_chk h
                refine rx_ia (pc2 := 69) op124_68 (rn_shlt sp_16) sp_16 k11 rfl rfl ?_
                refine ry_go (tgt := 84) op124_69 (by decide) (by decide) ?_
                obtain ⟨rfl, rfl⟩ := rq_ret h
                exact ry_ri op124_84 ms_124 rfl
              · have h := (if_neg b10).symm.trans h
                refine rx_p (L2 := [some (.ref 0), some (.int a1), some (.int a2)]) (S2 := [.ref 0]) (pc2 := 73) op124_72 rfl rfl ?_
                refine rx_gf (v := .ref 3) (pc2 := 76) op124_73 sp_0 rfl rfl rfl ?_
                refine rx_gf (v := .ref 14) (pc2 := 79) op124_76 sp_3 rfl rfl rfl ?_
                refine rx_gf (v := .ref 17) (pc2 := 82) op124_79 sp_14 rfl rfl rfl ?_
                refine rx_p (L2 := [some (.ref 0), some (.int a1), some (.int a2)]) (S2 := [.int a1, .ref 17]) (pc2 := 83) op124_82 rfl rfl ?_
                obtain ⟨k12, h⟩ := rq_chk h
                refine rx_ia (pc2 := 84) op124_83 (rn_shlt sp_17) sp_17 k12 rfl rfl ?_
                obtain ⟨rfl, rfl⟩ := rq_ret h
                exact ry_ri op124_84 ms_124 rfl
            · have h := (if_neg b9).symm.trans h
              refine rx_ic (v := (-1)) (pc2 := 52) op124_51 (by decide) rfl ?_
              obtain ⟨rfl, rfl⟩ := rq_ret h
              exact ry_ri op124_52 ms_124 rfl
    · have h := (if_neg b2).symm.trans h
      refine rx_ic (v := (-1)) (pc2 := 20) op124_19 (by decide) rfl ?_
      obtain ⟨rfl, rfl⟩ := rq_ret h
      exact ry_ri op124_20 ms_124 rfl
/-! ja_max -/
theorem op129_0 : rn_op 129 0 = some (.iload_n 0, 1, 0, 0, 0) := by decide +kernel
theorem op129_1 : rn_op 129 1 = some (.iload_n 1, 1, 0, 0, 0) := by decide +kernel
theorem op129_2 : rn_op 129 2 = some (.if_icmp .lt 7, 3, 0, 0, 0) := by decide +kernel
theorem op129_5 : rn_op 129 5 = some (.iload_n 0, 1, 0, 0, 0) := by decide +kernel
theorem op129_6 : rn_op 129 6 = some (.goto 4, 3, 0, 0, 0) := by decide +kernel
theorem op129_9 : rn_op 129 9 = some (.iload_n 1, 1, 0, 0, 0) := by decide +kernel
theorem op129_10 : rn_op 129 10 = some (.ireturn, 1, 0, 0, 0) := by decide +kernel
def ja_max (n : Nat) (a0 : Int32) (a1 : Int32) (m : rn_Mem) : Option (Int32 × rn_Mem) :=
  if a0 < a1 then
    some (a1, m)
  else
    some (a0, m)
set_option maxHeartbeats 4000000 in
set_option maxRecDepth 20000 in
theorem ja_max_ok (xs : List Int32) {d : Nat} (hd : 0 ≤ d) {n : Nat} {a0 : Int32} {a1 : Int32} {m mO : rn_Mem} {rO : Int32} (h : ja_max n a0 a1 m = some (rO, mO)) : rn_R xs d 129 0 (rn_ent 2 [.int a0, .int a1]) [] (rn_SH, m) (some (.int rO)) (rn_SH, mO) := by
  unfold ja_max at h
  show rn_R xs d 129 0 [some (.int a0), some (.int a1)] [] (rn_SH, m) (some (.int rO)) (rn_SH, mO)
  refine rx_p (L2 := [some (.int a0), some (.int a1)]) (S2 := [.int a0]) (pc2 := 1) op129_0 rfl rfl ?_
  refine rx_p (L2 := [some (.int a0), some (.int a1)]) (S2 := [.int a1, .int a0]) (pc2 := 2) op129_1 rfl rfl ?_
  refine ry_ic_lt (tgt := 9) (pc2 := 5) op129_2 (by decide) (by decide) rfl (fun b1 => ?_) (fun b1 => ?_)
  · have h := (if_pos b1).symm.trans h
    refine rx_p (L2 := [some (.int a0), some (.int a1)]) (S2 := [.int a1]) (pc2 := 10) op129_9 rfl rfl ?_
    obtain ⟨rfl, rfl⟩ := rq_ret h
    exact ry_ri op129_10 ms_129 rfl
  · have h := (if_neg b1).symm.trans h
    refine rx_p (L2 := [some (.int a0), some (.int a1)]) (S2 := [.int a0]) (pc2 := 6) op129_5 rfl rfl ?_
    refine ry_go (tgt := 10) op129_6 (by decide) (by decide) ?_
    obtain ⟨rfl, rfl⟩ := rq_ret h
    exact ry_ri op129_10 ms_129 rfl
/-! ju_reachBehind -/
theorem op128_0 : rn_op 128 0 = some (.aload_n 1, 1, 0, 0, 0) := by decide +kernel
theorem op128_1 : rn_op 128 1 = some (.iload_n 3, 1, 0, 0, 0) := by decide +kernel
theorem op128_2 : rn_op 128 2 = some (.invokevirtual 72, 3, 52, 2, 1) := by decide +kernel
theorem op128_5 : rn_op 128 5 = some (.istore 7, 2, 0, 0, 0) := by decide +kernel
theorem op128_7 : rn_op 128 7 = some (.iload_n 2, 1, 0, 0, 0) := by decide +kernel
theorem op128_8 : rn_op 128 8 = some (.iconst 1, 1, 0, 0, 0) := by decide +kernel
theorem op128_9 : rn_op 128 9 = some (.iadd, 1, 0, 0, 0) := by decide +kernel
theorem op128_10 : rn_op 128 10 = some (.aload_n 1, 1, 0, 0, 0) := by decide +kernel
theorem op128_11 : rn_op 128 11 = some (.getfield 46, 3, 1, 1, 0) := by decide +kernel
theorem op128_14 : rn_op 128 14 = some (.irem, 1, 0, 0, 0) := by decide +kernel
theorem op128_15 : rn_op 128 15 = some (.ifCond .eq 20, 3, 0, 0, 0) := by decide +kernel
theorem op128_18 : rn_op 128 18 = some (.aload_n 0, 1, 0, 0, 0) := by decide +kernel
theorem op128_19 : rn_op 128 19 = some (.aload_n 1, 1, 0, 0, 0) := by decide +kernel
theorem op128_20 : rn_op 128 20 = some (.iload_n 2, 1, 0, 0, 0) := by decide +kernel
theorem op128_21 : rn_op 128 21 = some (.iconst 1, 1, 0, 0, 0) := by decide +kernel
theorem op128_22 : rn_op 128 22 = some (.iadd, 1, 0, 0, 0) := by decide +kernel
theorem op128_23 : rn_op 128 23 = some (.iload 7, 2, 0, 0, 0) := by decide +kernel
theorem op128_25 : rn_op 128 25 = some (.iload 4, 2, 0, 0, 0) := by decide +kernel
theorem op128_27 : rn_op 128 27 = some (.iload 5, 2, 0, 0, 0) := by decide +kernel
theorem op128_29 : rn_op 128 29 = some (.iload 6, 2, 0, 0, 0) := by decide +kernel
theorem op128_31 : rn_op 128 31 = some (.invokevirtual 57, 3, 127, 7, 2) := by decide +kernel
theorem op128_34 : rn_op 128 34 = some (.ireturn, 1, 0, 0, 0) := by decide +kernel
theorem op128_35 : rn_op 128 35 = some (.iload 4, 2, 0, 0, 0) := by decide +kernel
theorem op128_37 : rn_op 128 37 = some (.invokestatic 76, 3, 53, 1, 0) := by decide +kernel
theorem op128_40 : rn_op 128 40 = some (.istore 8, 2, 0, 0, 0) := by decide +kernel
theorem op128_42 : rn_op 128 42 = some (.iload 8, 2, 0, 0, 0) := by decide +kernel
theorem op128_44 : rn_op 128 44 = some (.iconst 2, 1, 0, 0, 0) := by decide +kernel
theorem op128_45 : rn_op 128 45 = some (.irem, 1, 0, 0, 0) := by decide +kernel
theorem op128_46 : rn_op 128 46 = some (.ifCond .ne 7, 3, 0, 0, 0) := by decide +kernel
theorem op128_49 : rn_op 128 49 = some (.iconst 1, 1, 0, 0, 0) := by decide +kernel
theorem op128_50 : rn_op 128 50 = some (.goto 4, 3, 0, 0, 0) := by decide +kernel
theorem op128_53 : rn_op 128 53 = some (.iconst 0, 1, 0, 0, 0) := by decide +kernel
theorem op128_54 : rn_op 128 54 = some (.istore 9, 2, 0, 0, 0) := by decide +kernel
theorem op128_56 : rn_op 128 56 = some (.aload_n 1, 1, 0, 0, 0) := by decide +kernel
theorem op128_57 : rn_op 128 57 = some (.getfield 79, 3, 1, 6, 0) := by decide +kernel
theorem op128_60 : rn_op 128 60 = some (.ifCond .ne 8, 3, 0, 0, 0) := by decide +kernel
theorem op128_63 : rn_op 128 63 = some (.iload 8, 2, 0, 0, 0) := by decide +kernel
theorem op128_65 : rn_op 128 65 = some (.goto 9, 3, 0, 0, 0) := by decide +kernel
theorem op128_68 : rn_op 128 68 = some (.aload_n 1, 1, 0, 0, 0) := by decide +kernel
theorem op128_69 : rn_op 128 69 = some (.iload 7, 2, 0, 0, 0) := by decide +kernel
theorem op128_71 : rn_op 128 71 = some (.invokevirtual 72, 3, 52, 2, 1) := by decide +kernel
theorem op128_74 : rn_op 128 74 = some (.istore 10, 2, 0, 0, 0) := by decide +kernel
theorem op128_76 : rn_op 128 76 = some (.iload 9, 2, 0, 0, 0) := by decide +kernel
theorem op128_78 : rn_op 128 78 = some (.aload_n 0, 1, 0, 0, 0) := by decide +kernel
theorem op128_79 : rn_op 128 79 = some (.aload_n 1, 1, 0, 0, 0) := by decide +kernel
theorem op128_80 : rn_op 128 80 = some (.iload_n 2, 1, 0, 0, 0) := by decide +kernel
theorem op128_81 : rn_op 128 81 = some (.iconst 1, 1, 0, 0, 0) := by decide +kernel
theorem op128_82 : rn_op 128 82 = some (.iadd, 1, 0, 0, 0) := by decide +kernel
theorem op128_83 : rn_op 128 83 = some (.iload 10, 2, 0, 0, 0) := by decide +kernel
theorem op128_85 : rn_op 128 85 = some (.iconst (-1), 1, 0, 0, 0) := by decide +kernel
theorem op128_86 : rn_op 128 86 = some (.iload 5, 2, 0, 0, 0) := by decide +kernel
theorem op128_88 : rn_op 128 88 = some (.iload 9, 2, 0, 0, 0) := by decide +kernel
theorem op128_90 : rn_op 128 90 = some (.isub, 1, 0, 0, 0) := by decide +kernel
theorem op128_91 : rn_op 128 91 = some (.iload 6, 2, 0, 0, 0) := by decide +kernel
theorem op128_93 : rn_op 128 93 = some (.iload 9, 2, 0, 0, 0) := by decide +kernel
theorem op128_95 : rn_op 128 95 = some (.isub, 1, 0, 0, 0) := by decide +kernel
theorem op128_96 : rn_op 128 96 = some (.invokevirtual 57, 3, 127, 7, 2) := by decide +kernel
theorem op128_99 : rn_op 128 99 = some (.iadd, 1, 0, 0, 0) := by decide +kernel
theorem op128_100 : rn_op 128 100 = some (.ireturn, 1, 0, 0, 0) := by decide +kernel
def ju_reachBehind (rec : Nat → Int32 → Int32 → Int32 → Int32 → Int32 → rn_Mem → Option (Int32 × rn_Mem)) (n : Nat) (q1 : Nat) (a2 : Int32) (a3 : Int32) (a4 : Int32) (a5 : Int32) (a6 : Int32) (m : rn_Mem) : Option (Int32 × rn_Mem) :=
  (ga_next n q1 a3 m).bind fun (r2, m1) =>
  if ¬ (m1.1 q1 1) = 0 then
    if (rn_rem (a2 + 1) (m1.1 q1 1)) = 0 then
      (ga_winnerOf n a4 m1).bind fun (r7, m6) =>
      (show Option (Int32) from
        if (rn_rem r7 2) = 0 then
          some (1)
        else
          some (0)).bind fun x14 =>
      (show Option (Int32 × rn_Mem) from
        if (m6.1 q1 6) = 0 then
          some (r7, m6)
        else
          (ga_next n q1 r2 m6).bind fun (r17, m16) =>
          some (r17, m16)).bind fun (x24, m25) =>
      (rec q1 (a2 + 1) x24 (-1) (a5 - x14) (a6 - x14) m25).bind fun (r27, m26) =>
      some (x14 + r27, m26)
    else
      (rec q1 (a2 + 1) r2 a4 a5 a6 m1).bind fun (r32, m31) =>
      some (r32, m31)
  else none
set_option maxHeartbeats 4000000 in
set_option maxRecDepth 20000 in
theorem ju_reachBehind_ok (xs : List Int32) {d : Nat} (hd : 3 ≤ d) {rec : Nat → Int32 → Int32 → Int32 → Int32 → Int32 → rn_Mem → Option (Int32 × rn_Mem)} (hrec : ∀ {q1 : Nat} {a2 : Int32} {a3 : Int32} {a4 : Int32} {a5 : Int32} {a6 : Int32} {mI mO : rn_Mem} {rO : Int32} , sA_Game q1 → rec q1 a2 a3 a4 a5 a6 mI = some (rO, mO) → rn_R xs d 127 0 (rn_ent 12 [.ref 102, .ref q1, .int a2, .int a3, .int a4, .int a5, .int a6]) [] (rn_SH, mI) (some (.int rO)) (rn_SH, mO)) {n : Nat} {q1 : Nat} {a2 : Int32} {a3 : Int32} {a4 : Int32} {a5 : Int32} {a6 : Int32} {m mO : rn_Mem} {rO : Int32} (hq1 : sA_Game q1) (h : ju_reachBehind rec n q1 a2 a3 a4 a5 a6 m = some (rO, mO)) : rn_R xs (d + 1) 128 0 (rn_ent 11 [.ref 102, .ref q1, .int a2, .int a3, .int a4, .int a5, .int a6]) [] (rn_SH, m) (some (.int rO)) (rn_SH, mO) := by
  unfold ju_reachBehind at h
  show rn_R xs (d + 1) 128 0 [some (.ref 102), some (.ref q1), some (.int a2), some (.int a3), some (.int a4), some (.int a5), some (.int a6), none, none, none, none] [] (rn_SH, m) (some (.int rO)) (rn_SH, mO)
  refine rx_p (L2 := [some (.ref 102), some (.ref q1), some (.int a2), some (.int a3), some (.int a4), some (.int a5), some (.int a6), none, none, none, none]) (S2 := [.ref q1]) (pc2 := 1) op128_0 rfl rfl ?_
  refine rx_p (L2 := [some (.ref 102), some (.ref q1), some (.int a2), some (.int a3), some (.int a4), some (.int a5), some (.int a6), none, none, none, none]) (S2 := [.int a3, .ref q1]) (pc2 := 2) op128_1 rfl rfl ?_
  obtain ⟨⟨r2, m1⟩, f3, h⟩ := rq_bind h
  try dsimp only at h
  refine ry_iv (p := q1) (vs := [.int a3]) (T := []) (pc2 := 5) op128_2 ms_52 (by decide) rfl rfl (Nat.le_of_ble_eq_true rfl) (Nat.le_of_ble_eq_true rfl) hq1 (ga_next_ok xs (by omega) hq1 f3) rfl ?_
  show rn_R _ _ _ _ _ [.int r2] _ _ _
  refine rx_s (L2 := [some (.ref 102), some (.ref q1), some (.int a2), some (.int a3), some (.int a4), some (.int a5), some (.int a6), some (.int r2), none, none, none]) (pc2 := 7) op128_5 rfl rfl rfl ?_
  refine rx_p (L2 := [some (.ref 102), some (.ref q1), some (.int a2), some (.int a3), some (.int a4), some (.int a5), some (.int a6), some (.int r2), none, none, none]) (S2 := [.int a2]) (pc2 := 8) op128_7 rfl rfl ?_
  refine rx_ic (v := 1) (pc2 := 9) op128_8 (by decide) rfl ?_
  refine rx_p (L2 := [some (.ref 102), some (.ref q1), some (.int a2), some (.int a3), some (.int a4), some (.int a5), some (.int a6), some (.int r2), none, none, none]) (S2 := [.int (a2 + 1)]) (pc2 := 10) op128_9 rfl rfl ?_
  refine rx_p (L2 := [some (.ref 102), some (.ref q1), some (.int a2), some (.int a3), some (.int a4), some (.int a5), some (.int a6), some (.int r2), none, none, none]) (S2 := [.ref q1, .int (a2 + 1)]) (pc2 := 11) op128_10 rfl rfl ?_
  refine rx_gf (v := .int (m1.1 q1 1)) (pc2 := 14) op128_11 hq1 rfl rfl rfl ?_
  obtain ⟨k4, h⟩ := rq_chk h
  refine rx_rem (v := rn_rem (a2 + 1) (m1.1 q1 1)) (pc2 := 15) op128_14 k4 rfl rfl ?_
  refine ry_if_eq (tgt := 35) (pc2 := 18) op128_15 (by decide) (by decide) rfl (fun b5 => ?_) (fun b5 => ?_)
  · have h := (if_pos b5).symm.trans h
    refine rx_p (L2 := [some (.ref 102), some (.ref q1), some (.int a2), some (.int a3), some (.int a4), some (.int a5), some (.int a6), some (.int r2), none, none, none]) (S2 := [.int a4]) (pc2 := 37) op128_35 rfl rfl ?_
    obtain ⟨⟨r7, m6⟩, f8, h⟩ := rq_bind h
    try dsimp only at h
    refine ry_is (vs := [.int a4]) (T := []) (pc2 := 40) op128_37 (by decide) ms_53 (by decide) rfl rfl (Nat.le_of_ble_eq_true rfl) (Nat.le_of_ble_eq_true rfl) (ga_winnerOf_ok xs (by omega)  f8) rfl ?_
    show rn_R _ _ _ _ _ [.int r7] _ _ _
    refine rx_s (L2 := [some (.ref 102), some (.ref q1), some (.int a2), some (.int a3), some (.int a4), some (.int a5), some (.int a6), some (.int r2), some (.int r7), none, none]) (pc2 := 42) op128_40 rfl rfl rfl ?_
    refine rx_p (L2 := [some (.ref 102), some (.ref q1), some (.int a2), some (.int a3), some (.int a4), some (.int a5), some (.int a6), some (.int r2), some (.int r7), none, none]) (S2 := [.int r7]) (pc2 := 44) op128_42 rfl rfl ?_
    refine rx_ic (v := 2) (pc2 := 45) op128_44 (by decide) rfl ?_
    refine rx_rem (v := rn_rem r7 2) (pc2 := 46) op128_45 (by decide) rfl rfl ?_
    obtain ⟨x14, gc30, h⟩ := rq_bind h
    try dsimp only at h
    have c30 : ∀ (o10 o11 o12 o13 : Option Value), rn_R xs (d + 1) 128 54 [some (.ref 102), some (.ref q1), some (.int a2), o10, o11, some (.int a5), some (.int a6), some (.int r2), some (.int r7), o12, o13] [.int x14] (rn_SH, m6) (some (.int rO)) (rn_SH, mO) := by
      intro o10 o11 o12 o13
      refine rx_s (L2 := [some (.ref 102), some (.ref q1), some (.int a2), o10, o11, some (.int a5), some (.int a6), some (.int r2), some (.int r7), some (.int x14), o13]) (pc2 := 56) op128_54 rfl rfl rfl ?_
      refine rx_p (L2 := [some (.ref 102), some (.ref q1), some (.int a2), o10, o11, some (.int a5), some (.int a6), some (.int r2), some (.int r7), some (.int x14), o13]) (S2 := [.ref q1]) (pc2 := 57) op128_56 rfl rfl ?_
      refine rx_gf (v := .int (m6.1 q1 6)) (pc2 := 60) op128_57 hq1 rfl rfl rfl ?_
      obtain ⟨⟨x24, m25⟩, gc29, h⟩ := rq_bind h
      try dsimp only at h
      have c29 : ∀ (o19 o20 o21 o22 o23 : Option Value), rn_R xs (d + 1) 128 74 [some (.ref 102), some (.ref q1), some (.int a2), o19, o20, some (.int a5), some (.int a6), o21, o22, some (.int x14), o23] [.int x24] (rn_SH, m25) (some (.int rO)) (rn_SH, mO) := by
        intro o19 o20 o21 o22 o23
        refine rx_s (L2 := [some (.ref 102), some (.ref q1), some (.int a2), o19, o20, some (.int a5), some (.int a6), o21, o22, some (.int x14), some (.int x24)]) (pc2 := 76) op128_74 rfl rfl rfl ?_
        refine rx_p (L2 := [some (.ref 102), some (.ref q1), some (.int a2), o19, o20, some (.int a5), some (.int a6), o21, o22, some (.int x14), some (.int x24)]) (S2 := [.int x14]) (pc2 := 78) op128_76 rfl rfl ?_
        refine rx_p (L2 := [some (.ref 102), some (.ref q1), some (.int a2), o19, o20, some (.int a5), some (.int a6), o21, o22, some (.int x14), some (.int x24)]) (S2 := [.ref 102, .int x14]) (pc2 := 79) op128_78 rfl rfl ?_
        refine rx_p (L2 := [some (.ref 102), some (.ref q1), some (.int a2), o19, o20, some (.int a5), some (.int a6), o21, o22, some (.int x14), some (.int x24)]) (S2 := [.ref q1, .ref 102, .int x14]) (pc2 := 80) op128_79 rfl rfl ?_
        refine rx_p (L2 := [some (.ref 102), some (.ref q1), some (.int a2), o19, o20, some (.int a5), some (.int a6), o21, o22, some (.int x14), some (.int x24)]) (S2 := [.int a2, .ref q1, .ref 102, .int x14]) (pc2 := 81) op128_80 rfl rfl ?_
        refine rx_ic (v := 1) (pc2 := 82) op128_81 (by decide) rfl ?_
        refine rx_p (L2 := [some (.ref 102), some (.ref q1), some (.int a2), o19, o20, some (.int a5), some (.int a6), o21, o22, some (.int x14), some (.int x24)]) (S2 := [.int (a2 + 1), .ref q1, .ref 102, .int x14]) (pc2 := 83) op128_82 rfl rfl ?_
        refine rx_p (L2 := [some (.ref 102), some (.ref q1), some (.int a2), o19, o20, some (.int a5), some (.int a6), o21, o22, some (.int x14), some (.int x24)]) (S2 := [.int x24, .int (a2 + 1), .ref q1, .ref 102, .int x14]) (pc2 := 85) op128_83 rfl rfl ?_
        refine rx_ic (v := (-1)) (pc2 := 86) op128_85 (by decide) rfl ?_
        refine rx_p (L2 := [some (.ref 102), some (.ref q1), some (.int a2), o19, o20, some (.int a5), some (.int a6), o21, o22, some (.int x14), some (.int x24)]) (S2 := [.int a5, .int (-1), .int x24, .int (a2 + 1), .ref q1, .ref 102, .int x14]) (pc2 := 88) op128_86 rfl rfl ?_
        refine rx_p (L2 := [some (.ref 102), some (.ref q1), some (.int a2), o19, o20, some (.int a5), some (.int a6), o21, o22, some (.int x14), some (.int x24)]) (S2 := [.int x14, .int a5, .int (-1), .int x24, .int (a2 + 1), .ref q1, .ref 102, .int x14]) (pc2 := 90) op128_88 rfl rfl ?_
        refine rx_p (L2 := [some (.ref 102), some (.ref q1), some (.int a2), o19, o20, some (.int a5), some (.int a6), o21, o22, some (.int x14), some (.int x24)]) (S2 := [.int (a5 - x14), .int (-1), .int x24, .int (a2 + 1), .ref q1, .ref 102, .int x14]) (pc2 := 91) op128_90 rfl rfl ?_
        refine rx_p (L2 := [some (.ref 102), some (.ref q1), some (.int a2), o19, o20, some (.int a5), some (.int a6), o21, o22, some (.int x14), some (.int x24)]) (S2 := [.int a6, .int (a5 - x14), .int (-1), .int x24, .int (a2 + 1), .ref q1, .ref 102, .int x14]) (pc2 := 93) op128_91 rfl rfl ?_
        refine rx_p (L2 := [some (.ref 102), some (.ref q1), some (.int a2), o19, o20, some (.int a5), some (.int a6), o21, o22, some (.int x14), some (.int x24)]) (S2 := [.int x14, .int a6, .int (a5 - x14), .int (-1), .int x24, .int (a2 + 1), .ref q1, .ref 102, .int x14]) (pc2 := 95) op128_93 rfl rfl ?_
        refine rx_p (L2 := [some (.ref 102), some (.ref q1), some (.int a2), o19, o20, some (.int a5), some (.int a6), o21, o22, some (.int x14), some (.int x24)]) (S2 := [.int (a6 - x14), .int (a5 - x14), .int (-1), .int x24, .int (a2 + 1), .ref q1, .ref 102, .int x14]) (pc2 := 96) op128_95 rfl rfl ?_
        obtain ⟨⟨r27, m26⟩, f28, h⟩ := rq_bind h
        try dsimp only at h
        refine ry_iv (p := 102) (vs := [.ref q1, .int (a2 + 1), .int x24, .int (-1), .int (a5 - x14), .int (a6 - x14)]) (T := [.int x14]) (pc2 := 99) op128_96 ms_127 (by decide) rfl rfl (Nat.le_of_ble_eq_true rfl) (Nat.le_of_ble_eq_true rfl) sp_102 (hrec hq1 f28) rfl ?_
        show rn_R _ _ _ _ _ [.int r27, .int x14] _ _ _
        refine rx_p (L2 := [some (.ref 102), some (.ref q1), some (.int a2), o19, o20, some (.int a5), some (.int a6), o21, o22, some (.int x14), some (.int x24)]) (S2 := [.int (x14 + r27)]) (pc2 := 100) op128_99 rfl rfl ?_
        obtain ⟨rfl, rfl⟩ := rq_ret h
        exact ry_ri op128_100 ms_128 rfl
      refine ry_if_ne (tgt := 68) (pc2 := 63) op128_60 (by decide) (by decide) rfl (fun b15 => ?_) (fun b15 => ?_)
      · have gc29 := (if_pos b15).symm.trans gc29
        refine rx_p (L2 := [some (.ref 102), some (.ref q1), some (.int a2), o10, o11, some (.int a5), some (.int a6), some (.int r2), some (.int r7), some (.int x14), o13]) (S2 := [.int r7]) (pc2 := 65) op128_63 rfl rfl ?_
        refine ry_go (tgt := 74) op128_65 (by decide) (by decide) ?_
        cases gc29
        exact c29 _ _ _ _ _
      · have gc29 := (if_neg b15).symm.trans gc29
        refine rx_p (L2 := [some (.ref 102), some (.ref q1), some (.int a2), o10, o11, some (.int a5), some (.int a6), some (.int r2), some (.int r7), some (.int x14), o13]) (S2 := [.ref q1]) (pc2 := 69) op128_68 rfl rfl ?_
        refine rx_p (L2 := [some (.ref 102), some (.ref q1), some (.int a2), o10, o11, some (.int a5), some (.int a6), some (.int r2), some (.int r7), some (.int x14), o13]) (S2 := [.int r2, .ref q1]) (pc2 := 71) op128_69 rfl rfl ?_
        obtain ⟨⟨r17, m16⟩, f18, gc29⟩ := rq_bind gc29
        try dsimp only at gc29
        refine ry_iv (p := q1) (vs := [.int r2]) (T := []) (pc2 := 74) op128_71 ms_52 (by decide) rfl rfl (Nat.le_of_ble_eq_true rfl) (Nat.le_of_ble_eq_true rfl) hq1 (ga_next_ok xs (by omega) hq1 f18) rfl ?_
        show rn_R _ _ _ _ _ [.int r17] _ _ _
        cases gc29
        exact c29 _ _ _ _ _
    refine ry_if_ne (tgt := 53) (pc2 := 49) op128_46 (by decide) (by decide) rfl (fun b9 => ?_) (fun b9 => ?_)
    · have gc30 := (if_pos b9).symm.trans gc30
      refine rx_ic (v := 1) (pc2 := 50) op128_49 (by decide) rfl ?_
      refine ry_go (tgt := 54) op128_50 (by decide) (by decide) ?_
      cases gc30
      exact c30 _ _ _ _
    · have gc30 := (if_neg b9).symm.trans gc30
      refine rx_ic (v := 0) (pc2 := 54) op128_53 (by decide) rfl ?_
      cases gc30
      exact c30 _ _ _ _
  · have h := (if_neg b5).symm.trans h
    refine rx_p (L2 := [some (.ref 102), some (.ref q1), some (.int a2), some (.int a3), some (.int a4), some (.int a5), some (.int a6), some (.int r2), none, none, none]) (S2 := [.ref 102]) (pc2 := 19) op128_18 rfl rfl ?_
    refine rx_p (L2 := [some (.ref 102), some (.ref q1), some (.int a2), some (.int a3), some (.int a4), some (.int a5), some (.int a6), some (.int r2), none, none, none]) (S2 := [.ref q1, .ref 102]) (pc2 := 20) op128_19 rfl rfl ?_
    refine rx_p (L2 := [some (.ref 102), some (.ref q1), some (.int a2), some (.int a3), some (.int a4), some (.int a5), some (.int a6), some (.int r2), none, none, none]) (S2 := [.int a2, .ref q1, .ref 102]) (pc2 := 21) op128_20 rfl rfl ?_
    refine rx_ic (v := 1) (pc2 := 22) op128_21 (by decide) rfl ?_
    refine rx_p (L2 := [some (.ref 102), some (.ref q1), some (.int a2), some (.int a3), some (.int a4), some (.int a5), some (.int a6), some (.int r2), none, none, none]) (S2 := [.int (a2 + 1), .ref q1, .ref 102]) (pc2 := 23) op128_22 rfl rfl ?_
    refine rx_p (L2 := [some (.ref 102), some (.ref q1), some (.int a2), some (.int a3), some (.int a4), some (.int a5), some (.int a6), some (.int r2), none, none, none]) (S2 := [.int r2, .int (a2 + 1), .ref q1, .ref 102]) (pc2 := 25) op128_23 rfl rfl ?_
    refine rx_p (L2 := [some (.ref 102), some (.ref q1), some (.int a2), some (.int a3), some (.int a4), some (.int a5), some (.int a6), some (.int r2), none, none, none]) (S2 := [.int a4, .int r2, .int (a2 + 1), .ref q1, .ref 102]) (pc2 := 27) op128_25 rfl rfl ?_
    refine rx_p (L2 := [some (.ref 102), some (.ref q1), some (.int a2), some (.int a3), some (.int a4), some (.int a5), some (.int a6), some (.int r2), none, none, none]) (S2 := [.int a5, .int a4, .int r2, .int (a2 + 1), .ref q1, .ref 102]) (pc2 := 29) op128_27 rfl rfl ?_
    refine rx_p (L2 := [some (.ref 102), some (.ref q1), some (.int a2), some (.int a3), some (.int a4), some (.int a5), some (.int a6), some (.int r2), none, none, none]) (S2 := [.int a6, .int a5, .int a4, .int r2, .int (a2 + 1), .ref q1, .ref 102]) (pc2 := 31) op128_29 rfl rfl ?_
    obtain ⟨⟨r32, m31⟩, f33, h⟩ := rq_bind h
    try dsimp only at h
    refine ry_iv (p := 102) (vs := [.ref q1, .int (a2 + 1), .int r2, .int a4, .int a5, .int a6]) (T := []) (pc2 := 34) op128_31 ms_127 (by decide) rfl rfl (Nat.le_of_ble_eq_true rfl) (Nat.le_of_ble_eq_true rfl) sp_102 (hrec hq1 f33) rfl ?_
    show rn_R _ _ _ _ _ [.int r32] _ _ _
    obtain ⟨rfl, rfl⟩ := rq_ret h
    exact ry_ri op128_34 ms_128 rfl
/-! ju_reach -/
theorem op127_0 : rn_op 127 0 = some (.iload_n 2, 1, 0, 0, 0) := by decide +kernel
theorem op127_1 : rn_op 127 1 = some (.aload_n 1, 1, 0, 0, 0) := by decide +kernel
theorem op127_2 : rn_op 127 2 = some (.invokevirtual 25, 3, 23, 1, 1) := by decide +kernel
theorem op127_5 : rn_op 127 5 = some (.if_icmp .lt 5, 3, 0, 0, 0) := by decide +kernel
theorem op127_8 : rn_op 127 8 = some (.iconst 0, 1, 0, 0, 0) := by decide +kernel
theorem op127_9 : rn_op 127 9 = some (.ireturn, 1, 0, 0, 0) := by decide +kernel
theorem op127_10 : rn_op 127 10 = some (.iload_n 3, 1, 0, 0, 0) := by decide +kernel
theorem op127_11 : rn_op 127 11 = some (.iconst 2, 1, 0, 0, 0) := by decide +kernel
theorem op127_12 : rn_op 127 12 = some (.irem, 1, 0, 0, 0) := by decide +kernel
theorem op127_13 : rn_op 127 13 = some (.ifCond .ne 7, 3, 0, 0, 0) := by decide +kernel
theorem op127_16 : rn_op 127 16 = some (.iconst 1, 1, 0, 0, 0) := by decide +kernel
theorem op127_17 : rn_op 127 17 = some (.goto 4, 3, 0, 0, 0) := by decide +kernel
theorem op127_20 : rn_op 127 20 = some (.iconst 0, 1, 0, 0, 0) := by decide +kernel
theorem op127_21 : rn_op 127 21 = some (.istore 7, 2, 0, 0, 0) := by decide +kernel
theorem op127_23 : rn_op 127 23 = some (.iload 7, 2, 0, 0, 0) := by decide +kernel
theorem op127_25 : rn_op 127 25 = some (.ifCond .eq 7, 3, 0, 0, 0) := by decide +kernel
theorem op127_28 : rn_op 127 28 = some (.iconst (-1), 1, 0, 0, 0) := by decide +kernel
theorem op127_29 : rn_op 127 29 = some (.goto 5, 3, 0, 0, 0) := by decide +kernel
theorem op127_32 : rn_op 127 32 = some (.bipush 99, 2, 0, 0, 0) := by decide +kernel
theorem op127_34 : rn_op 127 34 = some (.istore 8, 2, 0, 0, 0) := by decide +kernel
theorem op127_36 : rn_op 127 36 = some (.aload_n 0, 1, 0, 0, 0) := by decide +kernel
theorem op127_37 : rn_op 127 37 = some (.getfield 9, 3, 2, 0, 3) := by decide +kernel
theorem op127_40 : rn_op 127 40 = some (.iload_n 3, 1, 0, 0, 0) := by decide +kernel
theorem op127_41 : rn_op 127 41 = some (.iaload, 1, 0, 0, 0) := by decide +kernel
theorem op127_42 : rn_op 127 42 = some (.istore 9, 2, 0, 0, 0) := by decide +kernel
theorem op127_44 : rn_op 127 44 = some (.iconst 0, 1, 0, 0, 0) := by decide +kernel
theorem op127_45 : rn_op 127 45 = some (.istore 10, 2, 0, 0, 0) := by decide +kernel
theorem op127_47 : rn_op 127 47 = some (.iload 10, 2, 0, 0, 0) := by decide +kernel
theorem op127_49 : rn_op 127 49 = some (.bipush 16, 2, 0, 0, 0) := by decide +kernel
theorem op127_51 : rn_op 127 51 = some (.if_icmp .ge 138, 3, 0, 0, 0) := by decide +kernel
theorem op127_54 : rn_op 127 54 = some (.iload 5, 2, 0, 0, 0) := by decide +kernel
theorem op127_56 : rn_op 127 56 = some (.iload 6, 2, 0, 0, 0) := by decide +kernel
theorem op127_58 : rn_op 127 58 = some (.if_icmp .ge 131, 3, 0, 0, 0) := by decide +kernel
theorem op127_61 : rn_op 127 61 = some (.iload 9, 2, 0, 0, 0) := by decide +kernel
theorem op127_63 : rn_op 127 63 = some (.iload 10, 2, 0, 0, 0) := by decide +kernel
theorem op127_65 : rn_op 127 65 = some (.ishr, 1, 0, 0, 0) := by decide +kernel
theorem op127_66 : rn_op 127 66 = some (.iconst 1, 1, 0, 0, 0) := by decide +kernel
theorem op127_67 : rn_op 127 67 = some (.iand, 1, 0, 0, 0) := by decide +kernel
theorem op127_68 : rn_op 127 68 = some (.ifCond .eq 115, 3, 0, 0, 0) := by decide +kernel
theorem op127_71 : rn_op 127 71 = some (.aload_n 1, 1, 0, 0, 0) := by decide +kernel
theorem op127_72 : rn_op 127 72 = some (.iload 10, 2, 0, 0, 0) := by decide +kernel
theorem op127_74 : rn_op 127 74 = some (.iload 4, 2, 0, 0, 0) := by decide +kernel
theorem op127_76 : rn_op 127 76 = some (.iload 9, 2, 0, 0, 0) := by decide +kernel
theorem op127_78 : rn_op 127 78 = some (.invokevirtual 38, 3, 117, 4, 1) := by decide +kernel
theorem op127_81 : rn_op 127 81 = some (.ifCond .eq 102, 3, 0, 0, 0) := by decide +kernel
theorem op127_84 : rn_op 127 84 = some (.aload_n 0, 1, 0, 0, 0) := by decide +kernel
theorem op127_85 : rn_op 127 85 = some (.getfield 9, 3, 2, 0, 3) := by decide +kernel
theorem op127_88 : rn_op 127 88 = some (.iload_n 3, 1, 0, 0, 0) := by decide +kernel
theorem op127_89 : rn_op 127 89 = some (.iload 9, 2, 0, 0, 0) := by decide +kernel
theorem op127_91 : rn_op 127 91 = some (.iconst 1, 1, 0, 0, 0) := by decide +kernel
theorem op127_92 : rn_op 127 92 = some (.iload 10, 2, 0, 0, 0) := by decide +kernel
theorem op127_94 : rn_op 127 94 = some (.ishl, 1, 0, 0, 0) := by decide +kernel
theorem op127_95 : rn_op 127 95 = some (.iconst (-1), 1, 0, 0, 0) := by decide +kernel
theorem op127_96 : rn_op 127 96 = some (.ixor, 1, 0, 0, 0) := by decide +kernel
theorem op127_97 : rn_op 127 97 = some (.iand, 1, 0, 0, 0) := by decide +kernel
theorem op127_98 : rn_op 127 98 = some (.iastore, 1, 0, 0, 0) := by decide +kernel
theorem op127_99 : rn_op 127 99 = some (.aload_n 0, 1, 0, 0, 0) := by decide +kernel
theorem op127_100 : rn_op 127 100 = some (.aload_n 1, 1, 0, 0, 0) := by decide +kernel
theorem op127_101 : rn_op 127 101 = some (.iload_n 2, 1, 0, 0, 0) := by decide +kernel
theorem op127_102 : rn_op 127 102 = some (.iload_n 3, 1, 0, 0, 0) := by decide +kernel
theorem op127_103 : rn_op 127 103 = some (.aload_n 1, 1, 0, 0, 0) := by decide +kernel
theorem op127_104 : rn_op 127 104 = some (.iload 4, 2, 0, 0, 0) := by decide +kernel
theorem op127_106 : rn_op 127 106 = some (.iload_n 3, 1, 0, 0, 0) := by decide +kernel
theorem op127_107 : rn_op 127 107 = some (.iload 10, 2, 0, 0, 0) := by decide +kernel
theorem op127_109 : rn_op 127 109 = some (.invokevirtual 50, 3, 51, 4, 1) := by decide +kernel
theorem op127_112 : rn_op 127 112 = some (.iload 5, 2, 0, 0, 0) := by decide +kernel
theorem op127_114 : rn_op 127 114 = some (.iload 6, 2, 0, 0, 0) := by decide +kernel
theorem op127_116 : rn_op 127 116 = some (.invokevirtual 60, 3, 128, 7, 2) := by decide +kernel
theorem op127_119 : rn_op 127 119 = some (.istore 11, 2, 0, 0, 0) := by decide +kernel
theorem op127_121 : rn_op 127 121 = some (.iload 7, 2, 0, 0, 0) := by decide +kernel
theorem op127_123 : rn_op 127 123 = some (.ifCond .eq 13, 3, 0, 0, 0) := by decide +kernel
theorem op127_126 : rn_op 127 126 = some (.iload 8, 2, 0, 0, 0) := by decide +kernel
theorem op127_128 : rn_op 127 128 = some (.iload 11, 2, 0, 0, 0) := by decide +kernel
theorem op127_130 : rn_op 127 130 = some (.invokestatic 63, 3, 129, 2, 0) := by decide +kernel
theorem op127_133 : rn_op 127 133 = some (.goto 10, 3, 0, 0, 0) := by decide +kernel
theorem op127_136 : rn_op 127 136 = some (.iload 8, 2, 0, 0, 0) := by decide +kernel
theorem op127_138 : rn_op 127 138 = some (.iload 11, 2, 0, 0, 0) := by decide +kernel
theorem op127_140 : rn_op 127 140 = some (.invokestatic 69, 3, 21, 2, 0) := by decide +kernel
theorem op127_143 : rn_op 127 143 = some (.istore 8, 2, 0, 0, 0) := by decide +kernel
theorem op127_145 : rn_op 127 145 = some (.iload 7, 2, 0, 0, 0) := by decide +kernel
theorem op127_147 : rn_op 127 147 = some (.ifCond .eq 13, 3, 0, 0, 0) := by decide +kernel
theorem op127_150 : rn_op 127 150 = some (.iload 5, 2, 0, 0, 0) := by decide +kernel
theorem op127_152 : rn_op 127 152 = some (.iload 8, 2, 0, 0, 0) := by decide +kernel
theorem op127_154 : rn_op 127 154 = some (.invokestatic 63, 3, 129, 2, 0) := by decide +kernel
theorem op127_157 : rn_op 127 157 = some (.goto 5, 3, 0, 0, 0) := by decide +kernel
theorem op127_160 : rn_op 127 160 = some (.iload 5, 2, 0, 0, 0) := by decide +kernel
theorem op127_162 : rn_op 127 162 = some (.istore 5, 2, 0, 0, 0) := by decide +kernel
theorem op127_164 : rn_op 127 164 = some (.iload 7, 2, 0, 0, 0) := by decide +kernel
theorem op127_166 : rn_op 127 166 = some (.ifCond .eq 8, 3, 0, 0, 0) := by decide +kernel
theorem op127_169 : rn_op 127 169 = some (.iload 6, 2, 0, 0, 0) := by decide +kernel
theorem op127_171 : rn_op 127 171 = some (.goto 10, 3, 0, 0, 0) := by decide +kernel
theorem op127_174 : rn_op 127 174 = some (.iload 6, 2, 0, 0, 0) := by decide +kernel
theorem op127_176 : rn_op 127 176 = some (.iload 8, 2, 0, 0, 0) := by decide +kernel
theorem op127_178 : rn_op 127 178 = some (.invokestatic 69, 3, 21, 2, 0) := by decide +kernel
theorem op127_181 : rn_op 127 181 = some (.istore 6, 2, 0, 0, 0) := by decide +kernel
theorem op127_183 : rn_op 127 183 = some (.iinc 10 1, 3, 0, 0, 0) := by decide +kernel
theorem op127_186 : rn_op 127 186 = some (.goto (-139), 3, 0, 0, 0) := by decide +kernel
theorem op127_189 : rn_op 127 189 = some (.aload_n 0, 1, 0, 0, 0) := by decide +kernel
theorem op127_190 : rn_op 127 190 = some (.getfield 9, 3, 2, 0, 3) := by decide +kernel
theorem op127_193 : rn_op 127 193 = some (.iload_n 3, 1, 0, 0, 0) := by decide +kernel
theorem op127_194 : rn_op 127 194 = some (.iload 9, 2, 0, 0, 0) := by decide +kernel
theorem op127_196 : rn_op 127 196 = some (.iastore, 1, 0, 0, 0) := by decide +kernel
theorem op127_197 : rn_op 127 197 = some (.iload 8, 2, 0, 0, 0) := by decide +kernel
theorem op127_199 : rn_op 127 199 = some (.ireturn, 1, 0, 0, 0) := by decide +kernel
def ju_reach_l47 (rec : Nat → Int32 → Int32 → Int32 → Int32 → Int32 → rn_Mem → Option (Int32 × rn_Mem)) (q1 : Nat) (a2 : Int32) (a3 : Int32) (a4 : Int32) (a7 : Int32) (a9 : Int32) : Nat → Int32 → Int32 → Int32 → Int32 → rn_Mem → Option (Int32 × rn_Mem)
  | 0, _, _, _, _, _ => none
  | n + 1, a5, a6, a8, a10, m =>
    if a10 < 16 then
      if a5 < a6 then
        (show Option (Int32 × Int32 × Int32 × rn_Mem) from
          if ((a9 >>> (a10 &&& 31)) &&& 1) = 0 then
            some (a5, a6, a8, m)
          else
            (ga_lets n q1 a10 a4 a9 m).bind fun (r24, m23) =>
            if r24 = 0 then
              some (a5, a6, a8, m23)
            else
              if rn_in a3 4 = true then
                (some (rm_i m23 103 a3.toNatClampNeg (a9 &&& (((1 : Int32) <<< (a10 &&& 31)) ^^^ (-1))))).bind fun (m27 : rn_Mem) =>
                (ga_join n q1 a4 a3 a10 m27).bind fun (r30, m29) =>
                (ju_reachBehind rec n q1 a2 a3 r30 a5 a6 m29).bind fun (r33, m32) =>
                (show Option (Int32 × rn_Mem) from
                  if a7 = 0 then
                    (ja_min n a8 r33 m32).bind fun (r37, m36) =>
                    some (r37, m36)
                  else
                    (ja_max n a8 r33 m32).bind fun (r40, m39) =>
                    some (r40, m39)).bind fun (x44, m45) =>
                (show Option (Int32 × rn_Mem) from
                  if a7 = 0 then
                    some (a5, m45)
                  else
                    (ja_max n a5 x44 m45).bind fun (r48, m47) =>
                    some (r48, m47)).bind fun (x52, m53) =>
                (show Option (Int32 × rn_Mem) from
                  if a7 = 0 then
                    (ja_min n a6 x44 m53).bind fun (r56, m55) =>
                    some (r56, m55)
                  else
                    some (a6, m53)).bind fun (x60, m61) =>
                some (x52, x60, x44, m61)
              else none).bind fun (x65, x66, x67, m69) =>
        (some (a10 + 1)).bind fun (x70 : Int32) =>
        ju_reach_l47 rec q1 a2 a3 a4 a7 a9 n x65 x66 x67 x70 m69
      else
        some (a8, m)
    else
      some (a8, m)
def ju_reach_1 (rec : Nat → Int32 → Int32 → Int32 → Int32 → Int32 → rn_Mem → Option (Int32 × rn_Mem)) (n : Nat) (q1 : Nat) (a2 : Int32) (a3 : Int32) (a4 : Int32) (a5 : Int32) (a6 : Int32) (m : rn_Mem) : Option (Int32 × rn_Mem) :=
  (ga_cards n q1 m).bind fun (r2, m1) =>
  if a2 < r2 then
    (show Option (Int32) from
      if (rn_rem a3 2) = 0 then
        some (1)
      else
        some (0)).bind fun x11 =>
    (show Option (Int32) from
      if x11 = 0 then
        some (99)
      else
        some ((-1))).bind fun x17 =>
    if rn_in a3 4 = true then
      (some (m1.1 103 a3.toNatClampNeg)).bind fun (x19 : Int32) =>
      (ju_reach_l47 rec q1 a2 a3 a4 x11 x19 n a5 a6 x17 0 m1).bind fun (x79, m72) =>
      if rn_in a3 4 = true then
        (some (rm_i m72 103 a3.toNatClampNeg x19)).bind fun (m82 : rn_Mem) =>
        some (x79, m82)
      else none
    else none
  else
    some (0, m1)
def ju_reach (n : Nat) : Nat → Nat → Int32 → Int32 → Int32 → Int32 → Int32 → rn_Mem → Option (Int32 × rn_Mem)
  | 0 => fun _ _ _ _ _ _ _ => none
  | k + 1 => ju_reach_1 (ju_reach n k) n
set_option maxHeartbeats 4000000 in
set_option maxRecDepth 20000 in
theorem ju_reach_l47_ok (xs : List Int32) {d : Nat} (hd : 3 ≤ d) {rec : Nat → Int32 → Int32 → Int32 → Int32 → Int32 → rn_Mem → Option (Int32 × rn_Mem)} (hrec : ∀ {q1 : Nat} {a2 : Int32} {a3 : Int32} {a4 : Int32} {a5 : Int32} {a6 : Int32} {mI mO : rn_Mem} {rO : Int32} , sA_Game q1 → rec q1 a2 a3 a4 a5 a6 mI = some (rO, mO) → rn_R xs d 127 0 (rn_ent 12 [.ref 102, .ref q1, .int a2, .int a3, .int a4, .int a5, .int a6]) [] (rn_SH, mI) (some (.int rO)) (rn_SH, mO)) {q1 : Nat} {a2 : Int32} {a3 : Int32} {a4 : Int32} {a7 : Int32} {a9 : Int32} {r : Option Value} {τ : rn_H} {out : Int32 × rn_Mem} (hr : ∀ (z8 : Int32) (mO : rn_Mem), out = (z8, mO) → ∀ (o1 o2 o4 o5 o6 o7 o10 o11 : Option Value), rn_R xs (d + 2) 127 189 [some (.ref 102), o1, o2, some (.int a3), o4, o5, o6, o7, some (.int z8), some (.int a9), o10, o11] [] (rn_SH, mO) r τ) : ∀ (n : Nat) (a5 : Int32) (a6 : Int32) (a8 : Int32) (a10 : Int32) (o11 : Option Value) (m : rn_Mem), sA_Game q1 → ju_reach_l47 rec q1 a2 a3 a4 a7 a9 n a5 a6 a8 a10 m = some out → rn_R xs (d + 2) 127 47 [some (.ref 102), some (.ref q1), some (.int a2), some (.int a3), some (.int a4), some (.int a5), some (.int a6), some (.int a7), some (.int a8), some (.int a9), some (.int a10), o11] [] (rn_SH, m) r τ := by
  intro n
  induction n with
  | zero =>
    intro _ _ _ _ _ _ _ h
    cases h
  | succ n ih =>
    intro a5 a6 a8 a10 o11 m hq1 h
    unfold ju_reach_l47 at h
    try dsimp only at h
    refine rx_p (L2 := [some (.ref 102), some (.ref q1), some (.int a2), some (.int a3), some (.int a4), some (.int a5), some (.int a6), some (.int a7), some (.int a8), some (.int a9), some (.int a10), o11]) (S2 := [.int a10]) (pc2 := 49) op127_47 rfl rfl ?_
    refine rx_bp (v := 16) (pc2 := 51) op127_49 (by decide) rfl ?_
    refine ry_ic_ge (tgt := 189) (pc2 := 54) op127_51 (by decide) (by decide) rfl (fun b20 => ?_) (fun b20 => ?_)
    · have h := (if_pos b20).symm.trans h
      refine rx_p (L2 := [some (.ref 102), some (.ref q1), some (.int a2), some (.int a3), some (.int a4), some (.int a5), some (.int a6), some (.int a7), some (.int a8), some (.int a9), some (.int a10), o11]) (S2 := [.int a5]) (pc2 := 56) op127_54 rfl rfl ?_
      refine rx_p (L2 := [some (.ref 102), some (.ref q1), some (.int a2), some (.int a3), some (.int a4), some (.int a5), some (.int a6), some (.int a7), some (.int a8), some (.int a9), some (.int a10), o11]) (S2 := [.int a6, .int a5]) (pc2 := 58) op127_56 rfl rfl ?_
      refine ry_ic_ge (tgt := 189) (pc2 := 61) op127_58 (by decide) (by decide) rfl (fun b21 => ?_) (fun b21 => ?_)
      · have h := (if_pos b21).symm.trans h
        refine rx_p (L2 := [some (.ref 102), some (.ref q1), some (.int a2), some (.int a3), some (.int a4), some (.int a5), some (.int a6), some (.int a7), some (.int a8), some (.int a9), some (.int a10), o11]) (S2 := [.int a9]) (pc2 := 63) op127_61 rfl rfl ?_
        refine rx_p (L2 := [some (.ref 102), some (.ref q1), some (.int a2), some (.int a3), some (.int a4), some (.int a5), some (.int a6), some (.int a7), some (.int a8), some (.int a9), some (.int a10), o11]) (S2 := [.int a10, .int a9]) (pc2 := 65) op127_63 rfl rfl ?_
        refine rx_p (L2 := [some (.ref 102), some (.ref q1), some (.int a2), some (.int a3), some (.int a4), some (.int a5), some (.int a6), some (.int a7), some (.int a8), some (.int a9), some (.int a10), o11]) (S2 := [.int (a9 >>> (a10 &&& 31))]) (pc2 := 66) op127_65 rfl rfl ?_
        refine rx_ic (v := 1) (pc2 := 67) op127_66 (by decide) rfl ?_
        refine rx_p (L2 := [some (.ref 102), some (.ref q1), some (.int a2), some (.int a3), some (.int a4), some (.int a5), some (.int a6), some (.int a7), some (.int a8), some (.int a9), some (.int a10), o11]) (S2 := [.int ((a9 >>> (a10 &&& 31)) &&& 1)]) (pc2 := 68) op127_67 rfl rfl ?_
        obtain ⟨⟨x65, x66, x67, m69⟩, gc71, h⟩ := rq_bind h
        try dsimp only at h
        have c71 : ∀ (o68 : Option Value), rn_R xs (d + 2) 127 183 [some (.ref 102), some (.ref q1), some (.int a2), some (.int a3), some (.int a4), some (.int x65), some (.int x66), some (.int a7), some (.int x67), some (.int a9), some (.int a10), o68] [] (rn_SH, m69) r τ := by
          intro o68
          obtain ⟨x70, ex70, h⟩ := rq_bv h
          refine rx_inc (w := 1) (v := x70) (L2 := [some (.ref 102), some (.ref q1), some (.int a2), some (.int a3), some (.int a4), some (.int x65), some (.int x66), some (.int a7), some (.int x67), some (.int a9), some (.int x70), o68]) (pc2 := 186) op127_183 rfl (by decide) ex70 rfl rfl ?_
          refine ry_go (tgt := 47) op127_186 (by decide) (by decide) ?_
          exact ih _ _ _ _ _ _ hq1 h
        refine ry_if_eq (tgt := 183) (pc2 := 71) op127_68 (by decide) (by decide) rfl (fun b22 => ?_) (fun b22 => ?_)
        · have gc71 := (if_pos b22).symm.trans gc71
          cases gc71
          exact c71 _
        · have gc71 := (if_neg b22).symm.trans gc71
          refine rx_p (L2 := [some (.ref 102), some (.ref q1), some (.int a2), some (.int a3), some (.int a4), some (.int a5), some (.int a6), some (.int a7), some (.int a8), some (.int a9), some (.int a10), o11]) (S2 := [.ref q1]) (pc2 := 72) op127_71 rfl rfl ?_
          refine rx_p (L2 := [some (.ref 102), some (.ref q1), some (.int a2), some (.int a3), some (.int a4), some (.int a5), some (.int a6), some (.int a7), some (.int a8), some (.int a9), some (.int a10), o11]) (S2 := [.int a10, .ref q1]) (pc2 := 74) op127_72 rfl rfl ?_
          refine rx_p (L2 := [some (.ref 102), some (.ref q1), some (.int a2), some (.int a3), some (.int a4), some (.int a5), some (.int a6), some (.int a7), some (.int a8), some (.int a9), some (.int a10), o11]) (S2 := [.int a4, .int a10, .ref q1]) (pc2 := 76) op127_74 rfl rfl ?_
          refine rx_p (L2 := [some (.ref 102), some (.ref q1), some (.int a2), some (.int a3), some (.int a4), some (.int a5), some (.int a6), some (.int a7), some (.int a8), some (.int a9), some (.int a10), o11]) (S2 := [.int a9, .int a4, .int a10, .ref q1]) (pc2 := 78) op127_76 rfl rfl ?_
          obtain ⟨⟨r24, m23⟩, f25, gc71⟩ := rq_bind gc71
          try dsimp only at gc71
          refine ry_iv (p := q1) (vs := [.int a10, .int a4, .int a9]) (T := []) (pc2 := 81) op127_78 ms_117 (by decide) rfl rfl (Nat.le_of_ble_eq_true rfl) (Nat.le_of_ble_eq_true rfl) hq1 (ga_lets_ok xs (by omega) hq1 f25) rfl ?_
          show rn_R _ _ _ _ _ [.int r24] _ _ _
          refine ry_if_eq (tgt := 183) (pc2 := 84) op127_81 (by decide) (by decide) rfl (fun b26 => ?_) (fun b26 => ?_)
          · have gc71 := (if_pos b26).symm.trans gc71
            cases gc71
            exact c71 _
          · have gc71 := (if_neg b26).symm.trans gc71
            refine rx_p (L2 := [some (.ref 102), some (.ref q1), some (.int a2), some (.int a3), some (.int a4), some (.int a5), some (.int a6), some (.int a7), some (.int a8), some (.int a9), some (.int a10), o11]) (S2 := [.ref 102]) (pc2 := 85) op127_84 rfl rfl ?_
            refine rx_gf (v := .ref 103) (pc2 := 88) op127_85 sp_102 rfl rfl rfl ?_
            refine rx_p (L2 := [some (.ref 102), some (.ref q1), some (.int a2), some (.int a3), some (.int a4), some (.int a5), some (.int a6), some (.int a7), some (.int a8), some (.int a9), some (.int a10), o11]) (S2 := [.int a3, .ref 103]) (pc2 := 89) op127_88 rfl rfl ?_
            refine rx_p (L2 := [some (.ref 102), some (.ref q1), some (.int a2), some (.int a3), some (.int a4), some (.int a5), some (.int a6), some (.int a7), some (.int a8), some (.int a9), some (.int a10), o11]) (S2 := [.int a9, .int a3, .ref 103]) (pc2 := 91) op127_89 rfl rfl ?_
            refine rx_ic (v := 1) (pc2 := 92) op127_91 (by decide) rfl ?_
            refine rx_p (L2 := [some (.ref 102), some (.ref q1), some (.int a2), some (.int a3), some (.int a4), some (.int a5), some (.int a6), some (.int a7), some (.int a8), some (.int a9), some (.int a10), o11]) (S2 := [.int a10, .int 1, .int a9, .int a3, .ref 103]) (pc2 := 94) op127_92 rfl rfl ?_
            refine rx_p (L2 := [some (.ref 102), some (.ref q1), some (.int a2), some (.int a3), some (.int a4), some (.int a5), some (.int a6), some (.int a7), some (.int a8), some (.int a9), some (.int a10), o11]) (S2 := [.int ((1 : Int32) <<< (a10 &&& 31)), .int a9, .int a3, .ref 103]) (pc2 := 95) op127_94 rfl rfl ?_
            refine rx_ic (v := (-1)) (pc2 := 96) op127_95 (by decide) rfl ?_
            refine rx_p (L2 := [some (.ref 102), some (.ref q1), some (.int a2), some (.int a3), some (.int a4), some (.int a5), some (.int a6), some (.int a7), some (.int a8), some (.int a9), some (.int a10), o11]) (S2 := [.int (((1 : Int32) <<< (a10 &&& 31)) ^^^ (-1)), .int a9, .int a3, .ref 103]) (pc2 := 97) op127_96 rfl rfl ?_
            refine rx_p (L2 := [some (.ref 102), some (.ref q1), some (.int a2), some (.int a3), some (.int a4), some (.int a5), some (.int a6), some (.int a7), some (.int a8), some (.int a9), some (.int a10), o11]) (S2 := [.int (a9 &&& (((1 : Int32) <<< (a10 &&& 31)) ^^^ (-1))), .int a3, .ref 103]) (pc2 := 98) op127_97 rfl rfl ?_
            obtain ⟨k28, gc71⟩ := rq_chk gc71
            obtain ⟨m27, em27, gc71⟩ := rq_bv gc71
            refine rx_is (m2 := m27) (pc2 := 99) op127_98 sp_103 k28 rfl em27 rfl ?_
            refine rx_p (L2 := [some (.ref 102), some (.ref q1), some (.int a2), some (.int a3), some (.int a4), some (.int a5), some (.int a6), some (.int a7), some (.int a8), some (.int a9), some (.int a10), o11]) (S2 := [.ref 102]) (pc2 := 100) op127_99 rfl rfl ?_
            refine rx_p (L2 := [some (.ref 102), some (.ref q1), some (.int a2), some (.int a3), some (.int a4), some (.int a5), some (.int a6), some (.int a7), some (.int a8), some (.int a9), some (.int a10), o11]) (S2 := [.ref q1, .ref 102]) (pc2 := 101) op127_100 rfl rfl ?_
            refine rx_p (L2 := [some (.ref 102), some (.ref q1), some (.int a2), some (.int a3), some (.int a4), some (.int a5), some (.int a6), some (.int a7), some (.int a8), some (.int a9), some (.int a10), o11]) (S2 := [.int a2, .ref q1, .ref 102]) (pc2 := 102) op127_101 rfl rfl ?_
            refine rx_p (L2 := [some (.ref 102), some (.ref q1), some (.int a2), some (.int a3), some (.int a4), some (.int a5), some (.int a6), some (.int a7), some (.int a8), some (.int a9), some (.int a10), o11]) (S2 := [.int a3, .int a2, .ref q1, .ref 102]) (pc2 := 103) op127_102 rfl rfl ?_
            refine rx_p (L2 := [some (.ref 102), some (.ref q1), some (.int a2), some (.int a3), some (.int a4), some (.int a5), some (.int a6), some (.int a7), some (.int a8), some (.int a9), some (.int a10), o11]) (S2 := [.ref q1, .int a3, .int a2, .ref q1, .ref 102]) (pc2 := 104) op127_103 rfl rfl ?_
            refine rx_p (L2 := [some (.ref 102), some (.ref q1), some (.int a2), some (.int a3), some (.int a4), some (.int a5), some (.int a6), some (.int a7), some (.int a8), some (.int a9), some (.int a10), o11]) (S2 := [.int a4, .ref q1, .int a3, .int a2, .ref q1, .ref 102]) (pc2 := 106) op127_104 rfl rfl ?_
            refine rx_p (L2 := [some (.ref 102), some (.ref q1), some (.int a2), some (.int a3), some (.int a4), some (.int a5), some (.int a6), some (.int a7), some (.int a8), some (.int a9), some (.int a10), o11]) (S2 := [.int a3, .int a4, .ref q1, .int a3, .int a2, .ref q1, .ref 102]) (pc2 := 107) op127_106 rfl rfl ?_
            refine rx_p (L2 := [some (.ref 102), some (.ref q1), some (.int a2), some (.int a3), some (.int a4), some (.int a5), some (.int a6), some (.int a7), some (.int a8), some (.int a9), some (.int a10), o11]) (S2 := [.int a10, .int a3, .int a4, .ref q1, .int a3, .int a2, .ref q1, .ref 102]) (pc2 := 109) op127_107 rfl rfl ?_
            obtain ⟨⟨r30, m29⟩, f31, gc71⟩ := rq_bind gc71
            try dsimp only at gc71
            refine ry_iv (p := q1) (vs := [.int a4, .int a3, .int a10]) (T := [.int a3, .int a2, .ref q1, .ref 102]) (pc2 := 112) op127_109 ms_51 (by decide) rfl rfl (Nat.le_of_ble_eq_true rfl) (Nat.le_of_ble_eq_true rfl) hq1 (ga_join_ok xs (by omega) hq1 f31) rfl ?_
            show rn_R _ _ _ _ _ [.int r30, .int a3, .int a2, .ref q1, .ref 102] _ _ _
            refine rx_p (L2 := [some (.ref 102), some (.ref q1), some (.int a2), some (.int a3), some (.int a4), some (.int a5), some (.int a6), some (.int a7), some (.int a8), some (.int a9), some (.int a10), o11]) (S2 := [.int a5, .int r30, .int a3, .int a2, .ref q1, .ref 102]) (pc2 := 114) op127_112 rfl rfl ?_
            refine rx_p (L2 := [some (.ref 102), some (.ref q1), some (.int a2), some (.int a3), some (.int a4), some (.int a5), some (.int a6), some (.int a7), some (.int a8), some (.int a9), some (.int a10), o11]) (S2 := [.int a6, .int a5, .int r30, .int a3, .int a2, .ref q1, .ref 102]) (pc2 := 116) op127_114 rfl rfl ?_
            obtain ⟨⟨r33, m32⟩, f34, gc71⟩ := rq_bind gc71
            try dsimp only at gc71
            refine ry_iv (p := 102) (vs := [.ref q1, .int a2, .int a3, .int r30, .int a5, .int a6]) (T := []) (pc2 := 119) op127_116 ms_128 (by decide) rfl rfl (Nat.le_of_ble_eq_true rfl) (Nat.le_of_ble_eq_true rfl) sp_102 (ju_reachBehind_ok xs hd hrec hq1 f34) rfl ?_
            show rn_R _ _ _ _ _ [.int r33] _ _ _
            refine rx_s (L2 := [some (.ref 102), some (.ref q1), some (.int a2), some (.int a3), some (.int a4), some (.int a5), some (.int a6), some (.int a7), some (.int a8), some (.int a9), some (.int a10), some (.int r33)]) (pc2 := 121) op127_119 rfl rfl rfl ?_
            refine rx_p (L2 := [some (.ref 102), some (.ref q1), some (.int a2), some (.int a3), some (.int a4), some (.int a5), some (.int a6), some (.int a7), some (.int a8), some (.int a9), some (.int a10), some (.int r33)]) (S2 := [.int a7]) (pc2 := 123) op127_121 rfl rfl ?_
            obtain ⟨⟨x44, m45⟩, gc64, gc71⟩ := rq_bind gc71
            try dsimp only at gc71
            have c64 : ∀ (o42 o43 : Option Value), rn_R xs (d + 2) 127 143 [some (.ref 102), some (.ref q1), some (.int a2), some (.int a3), some (.int a4), some (.int a5), some (.int a6), some (.int a7), o42, some (.int a9), some (.int a10), o43] [.int x44] (rn_SH, m45) r τ := by
              intro o42 o43
              refine rx_s (L2 := [some (.ref 102), some (.ref q1), some (.int a2), some (.int a3), some (.int a4), some (.int a5), some (.int a6), some (.int a7), some (.int x44), some (.int a9), some (.int a10), o43]) (pc2 := 145) op127_143 rfl rfl rfl ?_
              refine rx_p (L2 := [some (.ref 102), some (.ref q1), some (.int a2), some (.int a3), some (.int a4), some (.int a5), some (.int a6), some (.int a7), some (.int x44), some (.int a9), some (.int a10), o43]) (S2 := [.int a7]) (pc2 := 147) op127_145 rfl rfl ?_
              obtain ⟨⟨x52, m53⟩, gc63, gc71⟩ := rq_bind gc71
              try dsimp only at gc71
              have c63 : ∀ (o50 o51 : Option Value), rn_R xs (d + 2) 127 162 [some (.ref 102), some (.ref q1), some (.int a2), some (.int a3), some (.int a4), o50, some (.int a6), some (.int a7), some (.int x44), some (.int a9), some (.int a10), o51] [.int x52] (rn_SH, m53) r τ := by
                intro o50 o51
                refine rx_s (L2 := [some (.ref 102), some (.ref q1), some (.int a2), some (.int a3), some (.int a4), some (.int x52), some (.int a6), some (.int a7), some (.int x44), some (.int a9), some (.int a10), o51]) (pc2 := 164) op127_162 rfl rfl rfl ?_
                refine rx_p (L2 := [some (.ref 102), some (.ref q1), some (.int a2), some (.int a3), some (.int a4), some (.int x52), some (.int a6), some (.int a7), some (.int x44), some (.int a9), some (.int a10), o51]) (S2 := [.int a7]) (pc2 := 166) op127_164 rfl rfl ?_
                obtain ⟨⟨x60, m61⟩, gc62, gc71⟩ := rq_bind gc71
                try dsimp only at gc71
                have c62 : ∀ (o58 o59 : Option Value), rn_R xs (d + 2) 127 181 [some (.ref 102), some (.ref q1), some (.int a2), some (.int a3), some (.int a4), some (.int x52), o58, some (.int a7), some (.int x44), some (.int a9), some (.int a10), o59] [.int x60] (rn_SH, m61) r τ := by
                  intro o58 o59
                  refine rx_s (L2 := [some (.ref 102), some (.ref q1), some (.int a2), some (.int a3), some (.int a4), some (.int x52), some (.int x60), some (.int a7), some (.int x44), some (.int a9), some (.int a10), o59]) (pc2 := 183) op127_181 rfl rfl rfl ?_
                  cases gc71
                  exact c71 _
                refine ry_if_eq (tgt := 174) (pc2 := 169) op127_166 (by decide) (by decide) rfl (fun b54 => ?_) (fun b54 => ?_)
                · have gc62 := (if_pos b54).symm.trans gc62
                  refine rx_p (L2 := [some (.ref 102), some (.ref q1), some (.int a2), some (.int a3), some (.int a4), some (.int x52), some (.int a6), some (.int a7), some (.int x44), some (.int a9), some (.int a10), o51]) (S2 := [.int a6]) (pc2 := 176) op127_174 rfl rfl ?_
                  refine rx_p (L2 := [some (.ref 102), some (.ref q1), some (.int a2), some (.int a3), some (.int a4), some (.int x52), some (.int a6), some (.int a7), some (.int x44), some (.int a9), some (.int a10), o51]) (S2 := [.int x44, .int a6]) (pc2 := 178) op127_176 rfl rfl ?_
                  obtain ⟨⟨r56, m55⟩, f57, gc62⟩ := rq_bind gc62
                  try dsimp only at gc62
                  refine ry_is (vs := [.int a6, .int x44]) (T := []) (pc2 := 181) op127_178 (by decide) ms_21 (by decide) rfl rfl (Nat.le_of_ble_eq_true rfl) (Nat.le_of_ble_eq_true rfl) (ja_min_ok xs (by omega)  f57) rfl ?_
                  show rn_R _ _ _ _ _ [.int r56] _ _ _
                  cases gc62
                  exact c62 _ _
                · have gc62 := (if_neg b54).symm.trans gc62
                  refine rx_p (L2 := [some (.ref 102), some (.ref q1), some (.int a2), some (.int a3), some (.int a4), some (.int x52), some (.int a6), some (.int a7), some (.int x44), some (.int a9), some (.int a10), o51]) (S2 := [.int a6]) (pc2 := 171) op127_169 rfl rfl ?_
                  refine ry_go (tgt := 181) op127_171 (by decide) (by decide) ?_
                  cases gc62
                  exact c62 _ _
              refine ry_if_eq (tgt := 160) (pc2 := 150) op127_147 (by decide) (by decide) rfl (fun b46 => ?_) (fun b46 => ?_)
              · have gc63 := (if_pos b46).symm.trans gc63
                refine rx_p (L2 := [some (.ref 102), some (.ref q1), some (.int a2), some (.int a3), some (.int a4), some (.int a5), some (.int a6), some (.int a7), some (.int x44), some (.int a9), some (.int a10), o43]) (S2 := [.int a5]) (pc2 := 162) op127_160 rfl rfl ?_
                cases gc63
                exact c63 _ _
              · have gc63 := (if_neg b46).symm.trans gc63
                refine rx_p (L2 := [some (.ref 102), some (.ref q1), some (.int a2), some (.int a3), some (.int a4), some (.int a5), some (.int a6), some (.int a7), some (.int x44), some (.int a9), some (.int a10), o43]) (S2 := [.int a5]) (pc2 := 152) op127_150 rfl rfl ?_
                refine rx_p (L2 := [some (.ref 102), some (.ref q1), some (.int a2), some (.int a3), some (.int a4), some (.int a5), some (.int a6), some (.int a7), some (.int x44), some (.int a9), some (.int a10), o43]) (S2 := [.int x44, .int a5]) (pc2 := 154) op127_152 rfl rfl ?_
                obtain ⟨⟨r48, m47⟩, f49, gc63⟩ := rq_bind gc63
                try dsimp only at gc63
                refine ry_is (vs := [.int a5, .int x44]) (T := []) (pc2 := 157) op127_154 (by decide) ms_129 (by decide) rfl rfl (Nat.le_of_ble_eq_true rfl) (Nat.le_of_ble_eq_true rfl) (ja_max_ok xs (by omega)  f49) rfl ?_
                show rn_R _ _ _ _ _ [.int r48] _ _ _
                refine ry_go (tgt := 162) op127_157 (by decide) (by decide) ?_
                cases gc63
                exact c63 _ _
            refine ry_if_eq (tgt := 136) (pc2 := 126) op127_123 (by decide) (by decide) rfl (fun b35 => ?_) (fun b35 => ?_)
            · have gc64 := (if_pos b35).symm.trans gc64
              refine rx_p (L2 := [some (.ref 102), some (.ref q1), some (.int a2), some (.int a3), some (.int a4), some (.int a5), some (.int a6), some (.int a7), some (.int a8), some (.int a9), some (.int a10), some (.int r33)]) (S2 := [.int a8]) (pc2 := 138) op127_136 rfl rfl ?_
              refine rx_p (L2 := [some (.ref 102), some (.ref q1), some (.int a2), some (.int a3), some (.int a4), some (.int a5), some (.int a6), some (.int a7), some (.int a8), some (.int a9), some (.int a10), some (.int r33)]) (S2 := [.int r33, .int a8]) (pc2 := 140) op127_138 rfl rfl ?_
              obtain ⟨⟨r37, m36⟩, f38, gc64⟩ := rq_bind gc64
              try dsimp only at gc64
              refine ry_is (vs := [.int a8, .int r33]) (T := []) (pc2 := 143) op127_140 (by decide) ms_21 (by decide) rfl rfl (Nat.le_of_ble_eq_true rfl) (Nat.le_of_ble_eq_true rfl) (ja_min_ok xs (by omega)  f38) rfl ?_
              show rn_R _ _ _ _ _ [.int r37] _ _ _
              cases gc64
              exact c64 _ _
            · have gc64 := (if_neg b35).symm.trans gc64
              refine rx_p (L2 := [some (.ref 102), some (.ref q1), some (.int a2), some (.int a3), some (.int a4), some (.int a5), some (.int a6), some (.int a7), some (.int a8), some (.int a9), some (.int a10), some (.int r33)]) (S2 := [.int a8]) (pc2 := 128) op127_126 rfl rfl ?_
              refine rx_p (L2 := [some (.ref 102), some (.ref q1), some (.int a2), some (.int a3), some (.int a4), some (.int a5), some (.int a6), some (.int a7), some (.int a8), some (.int a9), some (.int a10), some (.int r33)]) (S2 := [.int r33, .int a8]) (pc2 := 130) op127_128 rfl rfl ?_
              obtain ⟨⟨r40, m39⟩, f41, gc64⟩ := rq_bind gc64
              try dsimp only at gc64
              refine ry_is (vs := [.int a8, .int r33]) (T := []) (pc2 := 133) op127_130 (by decide) ms_129 (by decide) rfl rfl (Nat.le_of_ble_eq_true rfl) (Nat.le_of_ble_eq_true rfl) (ja_max_ok xs (by omega)  f41) rfl ?_
              show rn_R _ _ _ _ _ [.int r40] _ _ _
              refine ry_go (tgt := 143) op127_133 (by decide) (by decide) ?_
              cases gc64
              exact c64 _ _
      · have h := (if_neg b21).symm.trans h
        cases h
        exact hr _ _ rfl _ _ _ _ _ _ _ _
    · have h := (if_neg b20).symm.trans h
      cases h
      exact hr _ _ rfl _ _ _ _ _ _ _ _
set_option maxHeartbeats 4000000 in
set_option maxRecDepth 20000 in
theorem ju_reach_1_ok (xs : List Int32) {d : Nat} (hd : 3 ≤ d) {rec : Nat → Int32 → Int32 → Int32 → Int32 → Int32 → rn_Mem → Option (Int32 × rn_Mem)} (hrec : ∀ {q1 : Nat} {a2 : Int32} {a3 : Int32} {a4 : Int32} {a5 : Int32} {a6 : Int32} {mI mO : rn_Mem} {rO : Int32} , sA_Game q1 → rec q1 a2 a3 a4 a5 a6 mI = some (rO, mO) → rn_R xs d 127 0 (rn_ent 12 [.ref 102, .ref q1, .int a2, .int a3, .int a4, .int a5, .int a6]) [] (rn_SH, mI) (some (.int rO)) (rn_SH, mO)) {n : Nat} {q1 : Nat} {a2 : Int32} {a3 : Int32} {a4 : Int32} {a5 : Int32} {a6 : Int32} {m mO : rn_Mem} {rO : Int32} (hq1 : sA_Game q1) (h : ju_reach_1 rec n q1 a2 a3 a4 a5 a6 m = some (rO, mO)) : rn_R xs (d + 2) 127 0 (rn_ent 12 [.ref 102, .ref q1, .int a2, .int a3, .int a4, .int a5, .int a6]) [] (rn_SH, m) (some (.int rO)) (rn_SH, mO) := by
  unfold ju_reach_1 at h
  show rn_R xs (d + 2) 127 0 [some (.ref 102), some (.ref q1), some (.int a2), some (.int a3), some (.int a4), some (.int a5), some (.int a6), none, none, none, none, none] [] (rn_SH, m) (some (.int rO)) (rn_SH, mO)
  refine rx_p (L2 := [some (.ref 102), some (.ref q1), some (.int a2), some (.int a3), some (.int a4), some (.int a5), some (.int a6), none, none, none, none, none]) (S2 := [.int a2]) (pc2 := 1) op127_0 rfl rfl ?_
  refine rx_p (L2 := [some (.ref 102), some (.ref q1), some (.int a2), some (.int a3), some (.int a4), some (.int a5), some (.int a6), none, none, none, none, none]) (S2 := [.ref q1, .int a2]) (pc2 := 2) op127_1 rfl rfl ?_
  obtain ⟨⟨r2, m1⟩, f3, h⟩ := rq_bind h
  try dsimp only at h
  refine ry_iv (p := q1) (vs := []) (T := [.int a2]) (pc2 := 5) op127_2 ms_23 (by decide) rfl rfl (Nat.le_of_ble_eq_true rfl) (Nat.le_of_ble_eq_true rfl) hq1 (ga_cards_ok xs (by omega) hq1 f3) rfl ?_
  show rn_R _ _ _ _ _ [.int r2, .int a2] _ _ _
  refine ry_ic_lt (tgt := 10) (pc2 := 8) op127_5 (by decide) (by decide) rfl (fun b4 => ?_) (fun b4 => ?_)
  · have h := (if_pos b4).symm.trans h
    refine rx_p (L2 := [some (.ref 102), some (.ref q1), some (.int a2), some (.int a3), some (.int a4), some (.int a5), some (.int a6), none, none, none, none, none]) (S2 := [.int a3]) (pc2 := 11) op127_10 rfl rfl ?_
    refine rx_ic (v := 2) (pc2 := 12) op127_11 (by decide) rfl ?_
    refine rx_rem (v := rn_rem a3 2) (pc2 := 13) op127_12 (by decide) rfl rfl ?_
    obtain ⟨x11, gc86, h⟩ := rq_bind h
    try dsimp only at h
    have c86 : ∀ (o6 o7 o8 o9 o10 : Option Value), rn_R xs (d + 2) 127 21 [some (.ref 102), some (.ref q1), some (.int a2), some (.int a3), some (.int a4), some (.int a5), some (.int a6), o6, o7, o8, o9, o10] [.int x11] (rn_SH, m1) (some (.int rO)) (rn_SH, mO) := by
      intro o6 o7 o8 o9 o10
      refine rx_s (L2 := [some (.ref 102), some (.ref q1), some (.int a2), some (.int a3), some (.int a4), some (.int a5), some (.int a6), some (.int x11), o7, o8, o9, o10]) (pc2 := 23) op127_21 rfl rfl rfl ?_
      refine rx_p (L2 := [some (.ref 102), some (.ref q1), some (.int a2), some (.int a3), some (.int a4), some (.int a5), some (.int a6), some (.int x11), o7, o8, o9, o10]) (S2 := [.int x11]) (pc2 := 25) op127_23 rfl rfl ?_
      obtain ⟨x17, gc85, h⟩ := rq_bind h
      try dsimp only at h
      have c85 : ∀ (o13 o14 o15 o16 : Option Value), rn_R xs (d + 2) 127 34 [some (.ref 102), some (.ref q1), some (.int a2), some (.int a3), some (.int a4), some (.int a5), some (.int a6), some (.int x11), o13, o14, o15, o16] [.int x17] (rn_SH, m1) (some (.int rO)) (rn_SH, mO) := by
        intro o13 o14 o15 o16
        refine rx_s (L2 := [some (.ref 102), some (.ref q1), some (.int a2), some (.int a3), some (.int a4), some (.int a5), some (.int a6), some (.int x11), some (.int x17), o14, o15, o16]) (pc2 := 36) op127_34 rfl rfl rfl ?_
        refine rx_p (L2 := [some (.ref 102), some (.ref q1), some (.int a2), some (.int a3), some (.int a4), some (.int a5), some (.int a6), some (.int x11), some (.int x17), o14, o15, o16]) (S2 := [.ref 102]) (pc2 := 37) op127_36 rfl rfl ?_
        refine rx_gf (v := .ref 103) (pc2 := 40) op127_37 sp_102 rfl rfl rfl ?_
        refine rx_p (L2 := [some (.ref 102), some (.ref q1), some (.int a2), some (.int a3), some (.int a4), some (.int a5), some (.int a6), some (.int x11), some (.int x17), o14, o15, o16]) (S2 := [.int a3, .ref 103]) (pc2 := 41) op127_40 rfl rfl ?_
        obtain ⟨k18, h⟩ := rq_chk h
        refine rx_ia (pc2 := 42) op127_41 (rn_shlt sp_103) sp_103 k18 rfl rfl ?_
        obtain ⟨x19, ex19, h⟩ := rq_bv h
        refine rx_s (v := x19) (L2 := [some (.ref 102), some (.ref q1), some (.int a2), some (.int a3), some (.int a4), some (.int a5), some (.int a6), some (.int x11), some (.int x17), some (.int x19), o15, o16]) (pc2 := 44) op127_42 ex19 rfl rfl ?_
        refine rx_ic (v := 0) (pc2 := 45) op127_44 (by decide) rfl ?_
        refine rx_s (L2 := [some (.ref 102), some (.ref q1), some (.int a2), some (.int a3), some (.int a4), some (.int a5), some (.int a6), some (.int x11), some (.int x17), some (.int x19), some (.int 0), o16]) (pc2 := 47) op127_45 rfl rfl rfl ?_
        obtain ⟨wf84, f84, h⟩ := rq_bind h
        refine ju_reach_l47_ok xs hd hrec (fun x79 m72 eq => ?_) _ _ _ _ _ _ _ hq1 f84
        subst eq
        try dsimp only at h
        intro o73 o74 o75 o76 o77 o78 o80 o81
        refine rx_p (L2 := [some (.ref 102), o73, o74, some (.int a3), o75, o76, o77, o78, some (.int x79), some (.int x19), o80, o81]) (S2 := [.ref 102]) (pc2 := 190) op127_189 rfl rfl ?_
        refine rx_gf (v := .ref 103) (pc2 := 193) op127_190 sp_102 rfl rfl rfl ?_
        refine rx_p (L2 := [some (.ref 102), o73, o74, some (.int a3), o75, o76, o77, o78, some (.int x79), some (.int x19), o80, o81]) (S2 := [.int a3, .ref 103]) (pc2 := 194) op127_193 rfl rfl ?_
        refine rx_p (L2 := [some (.ref 102), o73, o74, some (.int a3), o75, o76, o77, o78, some (.int x79), some (.int x19), o80, o81]) (S2 := [.int x19, .int a3, .ref 103]) (pc2 := 196) op127_194 rfl rfl ?_
        obtain ⟨k83, h⟩ := rq_chk h
        obtain ⟨m82, em82, h⟩ := rq_bv h
        refine rx_is (m2 := m82) (pc2 := 197) op127_196 sp_103 k83 rfl em82 rfl ?_
        refine rx_p (L2 := [some (.ref 102), o73, o74, some (.int a3), o75, o76, o77, o78, some (.int x79), some (.int x19), o80, o81]) (S2 := [.int x79]) (pc2 := 199) op127_197 rfl rfl ?_
        obtain ⟨rfl, rfl⟩ := rq_ret h
        exact ry_ri op127_199 ms_127 rfl
      refine ry_if_eq (tgt := 32) (pc2 := 28) op127_25 (by decide) (by decide) rfl (fun b12 => ?_) (fun b12 => ?_)
      · have gc85 := (if_pos b12).symm.trans gc85
        refine rx_bp (v := 99) (pc2 := 34) op127_32 (by decide) rfl ?_
        cases gc85
        exact c85 _ _ _ _
      · have gc85 := (if_neg b12).symm.trans gc85
        refine rx_ic (v := (-1)) (pc2 := 29) op127_28 (by decide) rfl ?_
        refine ry_go (tgt := 34) op127_29 (by decide) (by decide) ?_
        cases gc85
        exact c85 _ _ _ _
    refine ry_if_ne (tgt := 20) (pc2 := 16) op127_13 (by decide) (by decide) rfl (fun b5 => ?_) (fun b5 => ?_)
    · have gc86 := (if_pos b5).symm.trans gc86
      refine rx_ic (v := 1) (pc2 := 17) op127_16 (by decide) rfl ?_
      refine ry_go (tgt := 21) op127_17 (by decide) (by decide) ?_
      cases gc86
      exact c86 _ _ _ _ _
    · have gc86 := (if_neg b5).symm.trans gc86
      refine rx_ic (v := 0) (pc2 := 21) op127_20 (by decide) rfl ?_
      cases gc86
      exact c86 _ _ _ _ _
  · have h := (if_neg b4).symm.trans h
    refine rx_ic (v := 0) (pc2 := 9) op127_8 (by decide) rfl ?_
    obtain ⟨rfl, rfl⟩ := rq_ret h
    exact ry_ri op127_9 ms_127 rfl
set_option maxHeartbeats 4000000 in
set_option maxRecDepth 20000 in
theorem ju_reach_ok (xs : List Int32) : ∀ (k : Nat) {d : Nat} (hd : 2 * k + 3 ≤ d) {n : Nat} {q1 : Nat} {a2 : Int32} {a3 : Int32} {a4 : Int32} {a5 : Int32} {a6 : Int32} {m mO : rn_Mem} {rO : Int32} (hq1 : sA_Game q1) (h : ju_reach n k q1 a2 a3 a4 a5 a6 m = some (rO, mO)), rn_R xs d 127 0 (rn_ent 12 [.ref 102, .ref q1, .int a2, .int a3, .int a4, .int a5, .int a6]) [] (rn_SH, m) (some (.int rO)) (rn_SH, mO)
  | 0, d, hd, n, q1, a2, a3, a4, a5, a6, m, mO, rO, hq1, h => by cases h
  | k + 1, d, hd, n, q1, a2, a3, a4, a5, a6, m, mO, rO, hq1, h => by
    obtain ⟨d, rfl⟩ : ∃ e, d = e + 2 := ⟨d - 2, by omega⟩
    exact ju_reach_1_ok xs (by omega) (fun hq1 h => ju_reach_ok xs k (by omega) hq1 h) hq1 h
/-! ju_reachFrom -/
theorem op126_0 : rn_op 126 0 = some (.iload_n 3, 1, 0, 0, 0) := by decide +kernel
theorem op126_1 : rn_op 126 1 = some (.aload_n 1, 1, 0, 0, 0) := by decide +kernel
theorem op126_2 : rn_op 126 2 = some (.invokevirtual 25, 3, 23, 1, 1) := by decide +kernel
theorem op126_5 : rn_op 126 5 = some (.if_icmp .lt 5, 3, 0, 0, 0) := by decide +kernel
theorem op126_8 : rn_op 126 8 = some (.iconst 0, 1, 0, 0, 0) := by decide +kernel
theorem op126_9 : rn_op 126 9 = some (.ireturn, 1, 0, 0, 0) := by decide +kernel
theorem op126_10 : rn_op 126 10 = some (.aload_n 2, 1, 0, 0, 0) := by decide +kernel
theorem op126_11 : rn_op 126 11 = some (.getfield 54, 3, 3, 5, 3) := by decide +kernel
theorem op126_14 : rn_op 126 14 = some (.iload_n 3, 1, 0, 0, 0) := by decide +kernel
theorem op126_15 : rn_op 126 15 = some (.iaload, 1, 0, 0, 0) := by decide +kernel
theorem op126_16 : rn_op 126 16 = some (.ifCond .ge 37, 3, 0, 0, 0) := by decide +kernel
theorem op126_19 : rn_op 126 19 = some (.aload_n 0, 1, 0, 0, 0) := by decide +kernel
theorem op126_20 : rn_op 126 20 = some (.aload_n 1, 1, 0, 0, 0) := by decide +kernel
theorem op126_21 : rn_op 126 21 = some (.aload_n 2, 1, 0, 0, 0) := by decide +kernel
theorem op126_22 : rn_op 126 22 = some (.iload_n 3, 1, 0, 0, 0) := by decide +kernel
theorem op126_23 : rn_op 126 23 = some (.invokevirtual 21, 3, 116, 4, 2) := by decide +kernel
theorem op126_26 : rn_op 126 26 = some (.aload_n 2, 1, 0, 0, 0) := by decide +kernel
theorem op126_27 : rn_op 126 27 = some (.getfield 54, 3, 3, 5, 3) := by decide +kernel
theorem op126_30 : rn_op 126 30 = some (.iload_n 3, 1, 0, 0, 0) := by decide +kernel
theorem op126_31 : rn_op 126 31 = some (.aload_n 0, 1, 0, 0, 0) := by decide +kernel
theorem op126_32 : rn_op 126 32 = some (.aload_n 1, 1, 0, 0, 0) := by decide +kernel
theorem op126_33 : rn_op 126 33 = some (.iload_n 3, 1, 0, 0, 0) := by decide +kernel
theorem op126_34 : rn_op 126 34 = some (.aload_n 2, 1, 0, 0, 0) := by decide +kernel
theorem op126_35 : rn_op 126 35 = some (.getfield 31, 3, 3, 3, 3) := by decide +kernel
theorem op126_38 : rn_op 126 38 = some (.iload_n 3, 1, 0, 0, 0) := by decide +kernel
theorem op126_39 : rn_op 126 39 = some (.iaload, 1, 0, 0, 0) := by decide +kernel
theorem op126_40 : rn_op 126 40 = some (.aload_n 1, 1, 0, 0, 0) := by decide +kernel
theorem op126_41 : rn_op 126 41 = some (.aload_n 2, 1, 0, 0, 0) := by decide +kernel
theorem op126_42 : rn_op 126 42 = some (.iload_n 3, 1, 0, 0, 0) := by decide +kernel
theorem op126_43 : rn_op 126 43 = some (.invokestatic 42, 3, 119, 3, 0) := by decide +kernel
theorem op126_46 : rn_op 126 46 = some (.iconst (-1), 1, 0, 0, 0) := by decide +kernel
theorem op126_47 : rn_op 126 47 = some (.bipush 99, 2, 0, 0, 0) := by decide +kernel
theorem op126_49 : rn_op 126 49 = some (.invokevirtual 57, 3, 127, 7, 2) := by decide +kernel
theorem op126_52 : rn_op 126 52 = some (.iastore, 1, 0, 0, 0) := by decide +kernel
theorem op126_53 : rn_op 126 53 = some (.aload_n 2, 1, 0, 0, 0) := by decide +kernel
theorem op126_54 : rn_op 126 54 = some (.getfield 54, 3, 3, 5, 3) := by decide +kernel
theorem op126_57 : rn_op 126 57 = some (.iload_n 3, 1, 0, 0, 0) := by decide +kernel
theorem op126_58 : rn_op 126 58 = some (.iaload, 1, 0, 0, 0) := by decide +kernel
theorem op126_59 : rn_op 126 59 = some (.ireturn, 1, 0, 0, 0) := by decide +kernel
def ju_reachFrom (n : Nat) (q1 : Nat) (q2 : Nat) (a3 : Int32) (m : rn_Mem) : Option (Int32 × rn_Mem) :=
  (ga_cards n q1 m).bind fun (r2, m1) =>
  if a3 < r2 then
    if rn_in a3 13 = true then
      (show Option (rn_Mem) from
        if (m1.1 (q2 + 4) a3.toNatClampNeg) < 0 then
          (ju_deal n q1 q2 a3 m1).bind fun m7 =>
          if rn_in a3 12 = true then
            (ju_soFar n q1 q2 a3 m7).bind fun (r11, m10) =>
            (ju_reach n 16 q1 a3 (m7.1 (q2 + 2) a3.toNatClampNeg) r11 (-1) 99 m10).bind fun (r14, m13) =>
            if rn_in a3 13 = true then
              (some (rm_i m13 (q2 + 4) a3.toNatClampNeg r14)).bind fun (m16 : rn_Mem) =>
              some (m16)
            else none
          else none
        else
          some (m1)).bind fun m20 =>
      if rn_in a3 13 = true then
        some (m20.1 (q2 + 4) a3.toNatClampNeg, m20)
      else none
    else none
  else
    some (0, m1)
set_option maxHeartbeats 4000000 in
set_option maxRecDepth 20000 in
theorem ju_reachFrom_ok (xs : List Int32) {d : Nat} (hd : 38 ≤ d) {n : Nat} {q1 : Nat} {q2 : Nat} {a3 : Int32} {m mO : rn_Mem} {rO : Int32} (hq1 : sA_Game q1) (hq2 : sA_Row q2) (h : ju_reachFrom n q1 q2 a3 m = some (rO, mO)) : rn_R xs d 126 0 (rn_ent 4 [.ref 102, .ref q1, .ref q2, .int a3]) [] (rn_SH, m) (some (.int rO)) (rn_SH, mO) := by
  obtain ⟨d, rfl⟩ : ∃ e, d = e + 1 := ⟨d - 1, by omega⟩
  unfold ju_reachFrom at h
  show rn_R xs (d + 1) 126 0 [some (.ref 102), some (.ref q1), some (.ref q2), some (.int a3)] [] (rn_SH, m) (some (.int rO)) (rn_SH, mO)
  refine rx_p (L2 := [some (.ref 102), some (.ref q1), some (.ref q2), some (.int a3)]) (S2 := [.int a3]) (pc2 := 1) op126_0 rfl rfl ?_
  refine rx_p (L2 := [some (.ref 102), some (.ref q1), some (.ref q2), some (.int a3)]) (S2 := [.ref q1, .int a3]) (pc2 := 2) op126_1 rfl rfl ?_
  obtain ⟨⟨r2, m1⟩, f3, h⟩ := rq_bind h
  try dsimp only at h
  refine ry_iv (p := q1) (vs := []) (T := [.int a3]) (pc2 := 5) op126_2 ms_23 (by decide) rfl rfl (Nat.le_of_ble_eq_true rfl) (Nat.le_of_ble_eq_true rfl) hq1 (ga_cards_ok xs (by omega) hq1 f3) rfl ?_
  show rn_R _ _ _ _ _ [.int r2, .int a3] _ _ _
  refine ry_ic_lt (tgt := 10) (pc2 := 8) op126_5 (by decide) (by decide) rfl (fun b4 => ?_) (fun b4 => ?_)
  · have h := (if_pos b4).symm.trans h
    refine rx_p (L2 := [some (.ref 102), some (.ref q1), some (.ref q2), some (.int a3)]) (S2 := [.ref q2]) (pc2 := 11) op126_10 rfl rfl ?_
    refine rx_gf (v := .ref (q2 + 4)) (pc2 := 14) op126_11 (hq2.1) rfl rfl rfl ?_
    refine rx_p (L2 := [some (.ref 102), some (.ref q1), some (.ref q2), some (.int a3)]) (S2 := [.int a3, .ref (q2 + 4)]) (pc2 := 15) op126_14 rfl rfl ?_
    obtain ⟨k5, h⟩ := rq_chk h
    refine rx_ia (pc2 := 16) op126_15 (rn_shlt (hq2.2.2.2.2)) (hq2.2.2.2.2) k5 rfl rfl ?_
    obtain ⟨m20, gc22, h⟩ := rq_bind h
    try dsimp only at h
    have c22 : ∀ (o18 o19 : Option Value), rn_R xs (d + 1) 126 53 [o18, o19, some (.ref q2), some (.int a3)] [] (rn_SH, m20) (some (.int rO)) (rn_SH, mO) := by
      intro o18 o19
      refine rx_p (L2 := [o18, o19, some (.ref q2), some (.int a3)]) (S2 := [.ref q2]) (pc2 := 54) op126_53 rfl rfl ?_
      refine rx_gf (v := .ref (q2 + 4)) (pc2 := 57) op126_54 (hq2.1) rfl rfl rfl ?_
      refine rx_p (L2 := [o18, o19, some (.ref q2), some (.int a3)]) (S2 := [.int a3, .ref (q2 + 4)]) (pc2 := 58) op126_57 rfl rfl ?_
      obtain ⟨k21, h⟩ := rq_chk h
      refine rx_ia (pc2 := 59) op126_58 (rn_shlt (hq2.2.2.2.2)) (hq2.2.2.2.2) k21 rfl rfl ?_
      obtain ⟨rfl, rfl⟩ := rq_ret h
      exact ry_ri op126_59 ms_126 rfl
    refine ry_if_ge (tgt := 53) (pc2 := 19) op126_16 (by decide) (by decide) rfl (fun b6 => ?_) (fun b6 => ?_)
    · have gc22 := (if_pos b6).symm.trans gc22
      refine rx_p (L2 := [some (.ref 102), some (.ref q1), some (.ref q2), some (.int a3)]) (S2 := [.ref 102]) (pc2 := 20) op126_19 rfl rfl ?_
      refine rx_p (L2 := [some (.ref 102), some (.ref q1), some (.ref q2), some (.int a3)]) (S2 := [.ref q1, .ref 102]) (pc2 := 21) op126_20 rfl rfl ?_
      refine rx_p (L2 := [some (.ref 102), some (.ref q1), some (.ref q2), some (.int a3)]) (S2 := [.ref q2, .ref q1, .ref 102]) (pc2 := 22) op126_21 rfl rfl ?_
      refine rx_p (L2 := [some (.ref 102), some (.ref q1), some (.ref q2), some (.int a3)]) (S2 := [.int a3, .ref q2, .ref q1, .ref 102]) (pc2 := 23) op126_22 rfl rfl ?_
      obtain ⟨m7, f8, gc22⟩ := rq_bind gc22
      try dsimp only at gc22
      refine ry_iv (p := 102) (vs := [.ref q1, .ref q2, .int a3]) (T := []) (pc2 := 26) op126_23 ms_116 (by decide) rfl rfl (Nat.le_of_ble_eq_true rfl) (Nat.le_of_ble_eq_true rfl) sp_102 (ju_deal_ok xs (by omega) hq1 hq2 f8) rfl ?_
      show rn_R _ _ _ _ _ [] _ _ _
      refine rx_p (L2 := [some (.ref 102), some (.ref q1), some (.ref q2), some (.int a3)]) (S2 := [.ref q2]) (pc2 := 27) op126_26 rfl rfl ?_
      refine rx_gf (v := .ref (q2 + 4)) (pc2 := 30) op126_27 (hq2.1) rfl rfl rfl ?_
      refine rx_p (L2 := [some (.ref 102), some (.ref q1), some (.ref q2), some (.int a3)]) (S2 := [.int a3, .ref (q2 + 4)]) (pc2 := 31) op126_30 rfl rfl ?_
      refine rx_p (L2 := [some (.ref 102), some (.ref q1), some (.ref q2), some (.int a3)]) (S2 := [.ref 102, .int a3, .ref (q2 + 4)]) (pc2 := 32) op126_31 rfl rfl ?_
      refine rx_p (L2 := [some (.ref 102), some (.ref q1), some (.ref q2), some (.int a3)]) (S2 := [.ref q1, .ref 102, .int a3, .ref (q2 + 4)]) (pc2 := 33) op126_32 rfl rfl ?_
      refine rx_p (L2 := [some (.ref 102), some (.ref q1), some (.ref q2), some (.int a3)]) (S2 := [.int a3, .ref q1, .ref 102, .int a3, .ref (q2 + 4)]) (pc2 := 34) op126_33 rfl rfl ?_
      refine rx_p (L2 := [some (.ref 102), some (.ref q1), some (.ref q2), some (.int a3)]) (S2 := [.ref q2, .int a3, .ref q1, .ref 102, .int a3, .ref (q2 + 4)]) (pc2 := 35) op126_34 rfl rfl ?_
      refine rx_gf (v := .ref (q2 + 2)) (pc2 := 38) op126_35 (hq2.1) rfl rfl rfl ?_
      refine rx_p (L2 := [some (.ref 102), some (.ref q1), some (.ref q2), some (.int a3)]) (S2 := [.int a3, .ref (q2 + 2), .int a3, .ref q1, .ref 102, .int a3, .ref (q2 + 4)]) (pc2 := 39) op126_38 rfl rfl ?_
      obtain ⟨k9, gc22⟩ := rq_chk gc22
      refine rx_ia (pc2 := 40) op126_39 (rn_shlt (hq2.2.2.1)) (hq2.2.2.1) k9 rfl rfl ?_
      refine rx_p (L2 := [some (.ref 102), some (.ref q1), some (.ref q2), some (.int a3)]) (S2 := [.ref q1, .int (m7.1 (q2 + 2) a3.toNatClampNeg), .int a3, .ref q1, .ref 102, .int a3, .ref (q2 + 4)]) (pc2 := 41) op126_40 rfl rfl ?_
      refine rx_p (L2 := [some (.ref 102), some (.ref q1), some (.ref q2), some (.int a3)]) (S2 := [.ref q2, .ref q1, .int (m7.1 (q2 + 2) a3.toNatClampNeg), .int a3, .ref q1, .ref 102, .int a3, .ref (q2 + 4)]) (pc2 := 42) op126_41 rfl rfl ?_
      refine rx_p (L2 := [some (.ref 102), some (.ref q1), some (.ref q2), some (.int a3)]) (S2 := [.int a3, .ref q2, .ref q1, .int (m7.1 (q2 + 2) a3.toNatClampNeg), .int a3, .ref q1, .ref 102, .int a3, .ref (q2 + 4)]) (pc2 := 43) op126_42 rfl rfl ?_
      obtain ⟨⟨r11, m10⟩, f12, gc22⟩ := rq_bind gc22
      try dsimp only at gc22
      refine ry_is (vs := [.ref q1, .ref q2, .int a3]) (T := [.int (m7.1 (q2 + 2) a3.toNatClampNeg), .int a3, .ref q1, .ref 102, .int a3, .ref (q2 + 4)]) (pc2 := 46) op126_43 (by decide) ms_119 (by decide) rfl rfl (Nat.le_of_ble_eq_true rfl) (Nat.le_of_ble_eq_true rfl) (ju_soFar_ok xs (by omega) hq1 hq2 f12) rfl ?_
      show rn_R _ _ _ _ _ [.int r11, .int (m7.1 (q2 + 2) a3.toNatClampNeg), .int a3, .ref q1, .ref 102, .int a3, .ref (q2 + 4)] _ _ _
      refine rx_ic (v := (-1)) (pc2 := 47) op126_46 (by decide) rfl ?_
      refine rx_bp (v := 99) (pc2 := 49) op126_47 (by decide) rfl ?_
      obtain ⟨⟨r14, m13⟩, f15, gc22⟩ := rq_bind gc22
      try dsimp only at gc22
      refine ry_iv (p := 102) (vs := [.ref q1, .int a3, .int (m7.1 (q2 + 2) a3.toNatClampNeg), .int r11, .int (-1), .int 99]) (T := [.int a3, .ref (q2 + 4)]) (pc2 := 52) op126_49 ms_127 (by decide) rfl rfl (Nat.le_of_ble_eq_true rfl) (Nat.le_of_ble_eq_true rfl) sp_102 (ju_reach_ok xs 16 (by omega) hq1 f15) rfl ?_
      show rn_R _ _ _ _ _ [.int r14, .int a3, .ref (q2 + 4)] _ _ _
      obtain ⟨k17, gc22⟩ := rq_chk gc22
      obtain ⟨m16, em16, gc22⟩ := rq_bv gc22
      refine rx_is (m2 := m16) (pc2 := 53) op126_52 (hq2.2.2.2.2) k17 rfl em16 rfl ?_
      cases gc22
      exact c22 _ _
    · have gc22 := (if_neg b6).symm.trans gc22
      cases gc22
      exact c22 _ _
  · have h := (if_neg b4).symm.trans h
    refine rx_ic (v := 0) (pc2 := 9) op126_8 (by decide) rfl ?_
    obtain ⟨rfl, rfl⟩ := rq_ret h
    exact ry_ri op126_9 ms_126 rfl
