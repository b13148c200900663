/-! ga_lawful -/
theorem op45_0 : rn_op 45 0 = some (.iload_n 0, 1, 0, 0, 0) := by decide +kernel
theorem op45_1 : rn_op 45 1 = some (.tableswitch 97 3 7 #[35, 51, 66, 66, 81], 35, 0, 0, 0) := by decide +kernel
theorem op45_36 : rn_op 45 36 = some (.iload_n 1, 1, 0, 0, 0) := by decide +kernel
theorem op45_37 : rn_op 45 37 = some (.iconst (-1), 1, 0, 0, 0) := by decide +kernel
theorem op45_38 : rn_op 45 38 = some (.if_icmp .lt 12, 3, 0, 0, 0) := by decide +kernel
theorem op45_41 : rn_op 45 41 = some (.iload_n 1, 1, 0, 0, 0) := by decide +kernel
theorem op45_42 : rn_op 45 42 = some (.iconst 4, 1, 0, 0, 0) := by decide +kernel
theorem op45_43 : rn_op 45 43 = some (.if_icmp .ge 7, 3, 0, 0, 0) := by decide +kernel
theorem op45_46 : rn_op 45 46 = some (.iconst 1, 1, 0, 0, 0) := by decide +kernel
theorem op45_47 : rn_op 45 47 = some (.goto 4, 3, 0, 0, 0) := by decide +kernel
theorem op45_50 : rn_op 45 50 = some (.iconst 0, 1, 0, 0, 0) := by decide +kernel
theorem op45_51 : rn_op 45 51 = some (.ireturn, 1, 0, 0, 0) := by decide +kernel
theorem op45_52 : rn_op 45 52 = some (.iload_n 1, 1, 0, 0, 0) := by decide +kernel
theorem op45_53 : rn_op 45 53 = some (.ifCond .lt 12, 3, 0, 0, 0) := by decide +kernel
theorem op45_56 : rn_op 45 56 = some (.iload_n 1, 1, 0, 0, 0) := by decide +kernel
theorem op45_57 : rn_op 45 57 = some (.iconst 2, 1, 0, 0, 0) := by decide +kernel
theorem op45_58 : rn_op 45 58 = some (.if_icmp .gt 7, 3, 0, 0, 0) := by decide +kernel
theorem op45_61 : rn_op 45 61 = some (.iconst 1, 1, 0, 0, 0) := by decide +kernel
theorem op45_62 : rn_op 45 62 = some (.goto 4, 3, 0, 0, 0) := by decide +kernel
theorem op45_65 : rn_op 45 65 = some (.iconst 0, 1, 0, 0, 0) := by decide +kernel
theorem op45_66 : rn_op 45 66 = some (.ireturn, 1, 0, 0, 0) := by decide +kernel
theorem op45_67 : rn_op 45 67 = some (.iload_n 1, 1, 0, 0, 0) := by decide +kernel
theorem op45_68 : rn_op 45 68 = some (.ifCond .lt 12, 3, 0, 0, 0) := by decide +kernel
theorem op45_71 : rn_op 45 71 = some (.iload_n 1, 1, 0, 0, 0) := by decide +kernel
theorem op45_72 : rn_op 45 72 = some (.iconst 1, 1, 0, 0, 0) := by decide +kernel
theorem op45_73 : rn_op 45 73 = some (.if_icmp .gt 7, 3, 0, 0, 0) := by decide +kernel
theorem op45_76 : rn_op 45 76 = some (.iconst 1, 1, 0, 0, 0) := by decide +kernel
theorem op45_77 : rn_op 45 77 = some (.goto 4, 3, 0, 0, 0) := by decide +kernel
theorem op45_80 : rn_op 45 80 = some (.iconst 0, 1, 0, 0, 0) := by decide +kernel
theorem op45_81 : rn_op 45 81 = some (.ireturn, 1, 0, 0, 0) := by decide +kernel
theorem op45_82 : rn_op 45 82 = some (.iload_n 1, 1, 0, 0, 0) := by decide +kernel
theorem op45_83 : rn_op 45 83 = some (.iconst (-1), 1, 0, 0, 0) := by decide +kernel
theorem op45_84 : rn_op 45 84 = some (.if_icmp .lt 12, 3, 0, 0, 0) := by decide +kernel
theorem op45_87 : rn_op 45 87 = some (.iload_n 1, 1, 0, 0, 0) := by decide +kernel
theorem op45_88 : rn_op 45 88 = some (.iconst 4, 1, 0, 0, 0) := by decide +kernel
theorem op45_89 : rn_op 45 89 = some (.if_icmp .ge 7, 3, 0, 0, 0) := by decide +kernel
theorem op45_92 : rn_op 45 92 = some (.iconst 1, 1, 0, 0, 0) := by decide +kernel
theorem op45_93 : rn_op 45 93 = some (.goto 4, 3, 0, 0, 0) := by decide +kernel
theorem op45_96 : rn_op 45 96 = some (.iconst 0, 1, 0, 0, 0) := by decide +kernel
theorem op45_97 : rn_op 45 97 = some (.ireturn, 1, 0, 0, 0) := by decide +kernel
theorem op45_98 : rn_op 45 98 = some (.iconst 0, 1, 0, 0, 0) := by decide +kernel
theorem op45_99 : rn_op 45 99 = some (.ireturn, 1, 0, 0, 0) := by decide +kernel
def ga_lawful (n : Nat) (a0 : Int32) (a1 : Int32) (m : rn_Mem) : Option (Int32 × rn_Mem) :=
  if a0 = 3 then
    if a1 < (-1) then
      some (0, m)
    else
      if a1 < 4 then
        some (1, m)
      else
        some (0, m)
  else if a0 = 4 then
    if a1 < 0 then
      some (0, m)
    else
      if 2 < a1 then
        some (0, m)
      else
        some (1, m)
  else if a0 = 5 then
    if a1 < 0 then
      some (0, m)
    else
      if 1 < a1 then
        some (0, m)
      else
        some (1, m)
  else if a0 = 6 then
    if a1 < 0 then
      some (0, m)
    else
      if 1 < a1 then
        some (0, m)
      else
        some (1, m)
  else if a0 = 7 then
    if a1 < (-1) then
      some (0, m)
    else
      if a1 < 4 then
        some (1, m)
      else
        some (0, m)
  else 
    some (0, m)
set_option maxHeartbeats 4000000 in
set_option maxRecDepth 20000 in
theorem ga_lawful_ok (xs : List Int32) {d : Nat} (hd : 0 ≤ d) {n : Nat} {a0 : Int32} {a1 : Int32} {m mO : rn_Mem} {rO : Int32} (h : ga_lawful n a0 a1 m = some (rO, mO)) : rn_R xs d 45 0 (rn_ent 2 [.int a0, .int a1]) [] (rn_SH, m) (some (.int rO)) (rn_SH, mO) := by
  unfold ga_lawful at h
  show rn_R xs d 45 0 [some (.int a0), some (.int a1)] [] (rn_SH, m) (some (.int rO)) (rn_SH, mO)
  refine rx_p (L2 := [some (.int a0), some (.int a1)]) (S2 := [.int a0]) (pc2 := 1) op45_0 rfl rfl ?_
  by_cases b1 : a0 = 3
  · have h := (if_pos b1).symm.trans h
    refine ry_ti (w := 3) (off := 35) (tgt := 36) op45_1 (by rw [b1] <;> decide) (by decide) (by decide) (by decide) (by decide) ?_
    refine rx_p (L2 := [some (.int a0), some (.int a1)]) (S2 := [.int a1]) (pc2 := 37) op45_36 rfl rfl ?_
    refine rx_ic (v := (-1)) (pc2 := 38) op45_37 (by decide) rfl ?_
    refine ry_ic_lt (tgt := 50) (pc2 := 41) op45_38 (by decide) (by decide) rfl (fun b14 => ?_) (fun b14 => ?_)
    · have h := (if_pos b14).symm.trans h
      refine rx_ic (v := 0) (pc2 := 51) op45_50 (by decide) rfl ?_
      obtain ⟨rfl, rfl⟩ := rq_ret h
      exact ry_rz (x := 0) op45_51 ms_45 rfl (by decide)
    · have h := (if_neg b14).symm.trans h
      refine rx_p (L2 := [some (.int a0), some (.int a1)]) (S2 := [.int a1]) (pc2 := 42) op45_41 rfl rfl ?_
      refine rx_ic (v := 4) (pc2 := 43) op45_42 (by decide) rfl ?_
      refine ry_ic_ge (tgt := 50) (pc2 := 46) op45_43 (by decide) (by decide) rfl (fun b15 => ?_) (fun b15 => ?_)
      · have h := (if_pos b15).symm.trans h
        refine rx_ic (v := 1) (pc2 := 47) op45_46 (by decide) rfl ?_
        refine ry_go (tgt := 51) op45_47 (by decide) (by decide) ?_
        obtain ⟨rfl, rfl⟩ := rq_ret h
        exact ry_rz (x := 1) op45_51 ms_45 rfl (by decide)
      · have h := (if_neg b15).symm.trans h
        refine rx_ic (v := 0) (pc2 := 51) op45_50 (by decide) rfl ?_
        obtain ⟨rfl, rfl⟩ := rq_ret h
        exact ry_rz (x := 0) op45_51 ms_45 rfl (by decide)
  have h := (if_neg b1).symm.trans h
  by_cases b2 : a0 = 4
  · have h := (if_pos b2).symm.trans h
    refine ry_ti (w := 4) (off := 51) (tgt := 52) op45_1 (by rw [b2] <;> decide) (by decide) (by decide) (by decide) (by decide) ?_
    refine rx_p (L2 := [some (.int a0), some (.int a1)]) (S2 := [.int a1]) (pc2 := 53) op45_52 rfl rfl ?_
    refine ry_if_lt (tgt := 65) (pc2 := 56) op45_53 (by decide) (by decide) rfl (fun b16 => ?_) (fun b16 => ?_)
    · have h := (if_pos b16).symm.trans h
      refine rx_ic (v := 0) (pc2 := 66) op45_65 (by decide) rfl ?_
      obtain ⟨rfl, rfl⟩ := rq_ret h
      exact ry_rz (x := 0) op45_66 ms_45 rfl (by decide)
    · have h := (if_neg b16).symm.trans h
      refine rx_p (L2 := [some (.int a0), some (.int a1)]) (S2 := [.int a1]) (pc2 := 57) op45_56 rfl rfl ?_
      refine rx_ic (v := 2) (pc2 := 58) op45_57 (by decide) rfl ?_
      refine ry_ic_gt (tgt := 65) (pc2 := 61) op45_58 (by decide) (by decide) rfl (fun b17 => ?_) (fun b17 => ?_)
      · have h := (if_pos b17).symm.trans h
        refine rx_ic (v := 0) (pc2 := 66) op45_65 (by decide) rfl ?_
        obtain ⟨rfl, rfl⟩ := rq_ret h
        exact ry_rz (x := 0) op45_66 ms_45 rfl (by decide)
      · have h := (if_neg b17).symm.trans h
        refine rx_ic (v := 1) (pc2 := 62) op45_61 (by decide) rfl ?_
        refine ry_go (tgt := 66) op45_62 (by decide) (by decide) ?_
        obtain ⟨rfl, rfl⟩ := rq_ret h
        exact ry_rz (x := 1) op45_66 ms_45 rfl (by decide)
  have h := (if_neg b2).symm.trans h
  by_cases b3 : a0 = 5
  · have h := (if_pos b3).symm.trans h
    refine ry_ti (w := 5) (off := 66) (tgt := 67) op45_1 (by rw [b3] <;> decide) (by decide) (by decide) (by decide) (by decide) ?_
    refine rx_p (L2 := [some (.int a0), some (.int a1)]) (S2 := [.int a1]) (pc2 := 68) op45_67 rfl rfl ?_
    refine ry_if_lt (tgt := 80) (pc2 := 71) op45_68 (by decide) (by decide) rfl (fun b18 => ?_) (fun b18 => ?_)
    · have h := (if_pos b18).symm.trans h
      refine rx_ic (v := 0) (pc2 := 81) op45_80 (by decide) rfl ?_
      obtain ⟨rfl, rfl⟩ := rq_ret h
      exact ry_rz (x := 0) op45_81 ms_45 rfl (by decide)
    · have h := (if_neg b18).symm.trans h
      refine rx_p (L2 := [some (.int a0), some (.int a1)]) (S2 := [.int a1]) (pc2 := 72) op45_71 rfl rfl ?_
      refine rx_ic (v := 1) (pc2 := 73) op45_72 (by decide) rfl ?_
      refine ry_ic_gt (tgt := 80) (pc2 := 76) op45_73 (by decide) (by decide) rfl (fun b19 => ?_) (fun b19 => ?_)
      · have h := (if_pos b19).symm.trans h
        refine rx_ic (v := 0) (pc2 := 81) op45_80 (by decide) rfl ?_
        obtain ⟨rfl, rfl⟩ := rq_ret h
        exact ry_rz (x := 0) op45_81 ms_45 rfl (by decide)
      · have h := (if_neg b19).symm.trans h
        refine rx_ic (v := 1) (pc2 := 77) op45_76 (by decide) rfl ?_
        refine ry_go (tgt := 81) op45_77 (by decide) (by decide) ?_
        obtain ⟨rfl, rfl⟩ := rq_ret h
        exact ry_rz (x := 1) op45_81 ms_45 rfl (by decide)
  have h := (if_neg b3).symm.trans h
  by_cases b4 : a0 = 6
  · have h := (if_pos b4).symm.trans h
    refine ry_ti (w := 6) (off := 66) (tgt := 67) op45_1 (by rw [b4] <;> decide) (by decide) (by decide) (by decide) (by decide) ?_
    refine rx_p (L2 := [some (.int a0), some (.int a1)]) (S2 := [.int a1]) (pc2 := 68) op45_67 rfl rfl ?_
    refine ry_if_lt (tgt := 80) (pc2 := 71) op45_68 (by decide) (by decide) rfl (fun b20 => ?_) (fun b20 => ?_)
    · have h := (if_pos b20).symm.trans h
      refine rx_ic (v := 0) (pc2 := 81) op45_80 (by decide) rfl ?_
      obtain ⟨rfl, rfl⟩ := rq_ret h
      exact ry_rz (x := 0) op45_81 ms_45 rfl (by decide)
    · have h := (if_neg b20).symm.trans h
      refine rx_p (L2 := [some (.int a0), some (.int a1)]) (S2 := [.int a1]) (pc2 := 72) op45_71 rfl rfl ?_
      refine rx_ic (v := 1) (pc2 := 73) op45_72 (by decide) rfl ?_
      refine ry_ic_gt (tgt := 80) (pc2 := 76) op45_73 (by decide) (by decide) rfl (fun b21 => ?_) (fun b21 => ?_)
      · have h := (if_pos b21).symm.trans h
        refine rx_ic (v := 0) (pc2 := 81) op45_80 (by decide) rfl ?_
        obtain ⟨rfl, rfl⟩ := rq_ret h
        exact ry_rz (x := 0) op45_81 ms_45 rfl (by decide)
      · have h := (if_neg b21).symm.trans h
        refine rx_ic (v := 1) (pc2 := 77) op45_76 (by decide) rfl ?_
        refine ry_go (tgt := 81) op45_77 (by decide) (by decide) ?_
        obtain ⟨rfl, rfl⟩ := rq_ret h
        exact ry_rz (x := 1) op45_81 ms_45 rfl (by decide)
  have h := (if_neg b4).symm.trans h
  by_cases b5 : a0 = 7
  · have h := (if_pos b5).symm.trans h
    refine ry_ti (w := 7) (off := 81) (tgt := 82) op45_1 (by rw [b5] <;> decide) (by decide) (by decide) (by decide) (by decide) ?_
    refine rx_p (L2 := [some (.int a0), some (.int a1)]) (S2 := [.int a1]) (pc2 := 83) op45_82 rfl rfl ?_
    refine rx_ic (v := (-1)) (pc2 := 84) op45_83 (by decide) rfl ?_
    refine ry_ic_lt (tgt := 96) (pc2 := 87) op45_84 (by decide) (by decide) rfl (fun b22 => ?_) (fun b22 => ?_)
    · have h := (if_pos b22).symm.trans h
      refine rx_ic (v := 0) (pc2 := 97) op45_96 (by decide) rfl ?_
      obtain ⟨rfl, rfl⟩ := rq_ret h
      exact ry_rz (x := 0) op45_97 ms_45 rfl (by decide)
    · have h := (if_neg b22).symm.trans h
      refine rx_p (L2 := [some (.int a0), some (.int a1)]) (S2 := [.int a1]) (pc2 := 88) op45_87 rfl rfl ?_
      refine rx_ic (v := 4) (pc2 := 89) op45_88 (by decide) rfl ?_
      refine ry_ic_ge (tgt := 96) (pc2 := 92) op45_89 (by decide) (by decide) rfl (fun b23 => ?_) (fun b23 => ?_)
      · have h := (if_pos b23).symm.trans h
        refine rx_ic (v := 1) (pc2 := 93) op45_92 (by decide) rfl ?_
        refine ry_go (tgt := 97) op45_93 (by decide) (by decide) ?_
        obtain ⟨rfl, rfl⟩ := rq_ret h
        exact ry_rz (x := 1) op45_97 ms_45 rfl (by decide)
      · have h := (if_neg b23).symm.trans h
        refine rx_ic (v := 0) (pc2 := 97) op45_96 (by decide) rfl ?_
        obtain ⟨rfl, rfl⟩ := rq_ret h
        exact ry_rz (x := 0) op45_97 ms_45 rfl (by decide)
  have h := (if_neg b5).symm.trans h
  have tb1 := rq_nt 3 (by decide) b1
  have tb2 := rq_nt 4 (by decide) b2
  have tb3 := rq_nt 5 (by decide) b3
  have tb4 := rq_nt 6 (by decide) b4
  have tb5 := rq_nt 7 (by decide) b5
  refine ry_to (tgt := 98) op45_1 (by omega) (by decide) (by decide) ?_
  refine rx_ic (v := 0) (pc2 := 99) op45_98 (by decide) rfl ?_
  obtain ⟨rfl, rfl⟩ := rq_ret h
  exact ry_rz (x := 0) op45_99 ms_45 rfl (by decide)
/-! ga_change -/
theorem op46_0 : rn_op 46 0 = some (.iload_n 1, 1, 0, 0, 0) := by decide +kernel
theorem op46_1 : rn_op 46 1 = some (.tableswitch 63 3 6 #[31, 39, 47, 55], 31, 0, 0, 0) := by decide +kernel
theorem op46_32 : rn_op 46 32 = some (.aload_n 0, 1, 0, 0, 0) := by decide +kernel
theorem op46_33 : rn_op 46 33 = some (.iload_n 2, 1, 0, 0, 0) := by decide +kernel
theorem op46_34 : rn_op 46 34 = some (.putfield 18, 3, 1, 4, 0) := by decide +kernel
theorem op46_37 : rn_op 46 37 = some (.goto 32, 3, 0, 0, 0) := by decide +kernel
theorem op46_40 : rn_op 46 40 = some (.aload_n 0, 1, 0, 0, 0) := by decide +kernel
theorem op46_41 : rn_op 46 41 = some (.iload_n 2, 1, 0, 0, 0) := by decide +kernel
theorem op46_42 : rn_op 46 42 = some (.putfield 27, 3, 1, 5, 0) := by decide +kernel
theorem op46_45 : rn_op 46 45 = some (.goto 24, 3, 0, 0, 0) := by decide +kernel
theorem op46_48 : rn_op 46 48 = some (.aload_n 0, 1, 0, 0, 0) := by decide +kernel
theorem op46_49 : rn_op 46 49 = some (.iload_n 2, 1, 0, 0, 0) := by decide +kernel
theorem op46_50 : rn_op 46 50 = some (.putfield 30, 3, 1, 6, 0) := by decide +kernel
theorem op46_53 : rn_op 46 53 = some (.goto 16, 3, 0, 0, 0) := by decide +kernel
theorem op46_56 : rn_op 46 56 = some (.aload_n 0, 1, 0, 0, 0) := by decide +kernel
theorem op46_57 : rn_op 46 57 = some (.iload_n 2, 1, 0, 0, 0) := by decide +kernel
theorem op46_58 : rn_op 46 58 = some (.putfield 33, 3, 1, 7, 0) := by decide +kernel
theorem op46_61 : rn_op 46 61 = some (.goto 8, 3, 0, 0, 0) := by decide +kernel
theorem op46_64 : rn_op 46 64 = some (.aload_n 0, 1, 0, 0, 0) := by decide +kernel
theorem op46_65 : rn_op 46 65 = some (.iload_n 2, 1, 0, 0, 0) := by decide +kernel
theorem op46_66 : rn_op 46 66 = some (.putfield 21, 3, 1, 8, 0) := by decide +kernel
theorem op46_69 : rn_op 46 69 = some (.return_, 1, 0, 0, 0) := by decide +kernel
def ga_change (n : Nat) (q0 : Nat) (a1 : Int32) (a2 : Int32) (m : rn_Mem) : Option (rn_Mem) :=
  if a1 = 3 then
    (some (rm_i m q0 4 a2)).bind fun (m9 : rn_Mem) =>
    some m9
  else if a1 = 4 then
    (some (rm_i m q0 5 a2)).bind fun (m10 : rn_Mem) =>
    some m10
  else if a1 = 5 then
    (some (rm_i m q0 6 a2)).bind fun (m11 : rn_Mem) =>
    some m11
  else if a1 = 6 then
    (some (rm_i m q0 7 a2)).bind fun (m12 : rn_Mem) =>
    some m12
  else 
    (some (rm_i m q0 8 a2)).bind fun (m13 : rn_Mem) =>
    some m13
set_option maxHeartbeats 4000000 in
set_option maxRecDepth 20000 in
theorem ga_change_ok (xs : List Int32) {d : Nat} (hd : 0 ≤ d) {n : Nat} {q0 : Nat} {a1 : Int32} {a2 : Int32} {m mO : rn_Mem} (hq0 : sA_Game q0) (h : ga_change n q0 a1 a2 m = some mO) : rn_R xs d 46 0 (rn_ent 3 [.ref q0, .int a1, .int a2]) [] (rn_SH, m) none (rn_SH, mO) := by
  unfold ga_change at h
  show rn_R xs d 46 0 [some (.ref q0), some (.int a1), some (.int a2)] [] (rn_SH, m) none (rn_SH, mO)
  refine rx_p (L2 := [some (.ref q0), some (.int a1), some (.int a2)]) (S2 := [.int a1]) (pc2 := 1) op46_0 rfl rfl ?_
  by_cases b1 : a1 = 3
  · have h := (if_pos b1).symm.trans h
    refine ry_ti (w := 3) (off := 31) (tgt := 32) op46_1 (by rw [b1] <;> decide) (by decide) (by decide) (by decide) (by decide) ?_
    refine rx_p (L2 := [some (.ref q0), some (.int a1), some (.int a2)]) (S2 := [.ref q0]) (pc2 := 33) op46_32 rfl rfl ?_
    refine rx_p (L2 := [some (.ref q0), some (.int a1), some (.int a2)]) (S2 := [.int a2, .ref q0]) (pc2 := 34) op46_33 rfl rfl ?_
    obtain ⟨m9, em9, h⟩ := rq_bv h
    refine rx_pf (m2 := m9) (pc2 := 37) op46_34 hq0 rfl em9 rfl ?_
    refine ry_go (tgt := 69) op46_37 (by decide) (by decide) ?_
    obtain rfl := Option.some.inj h
    exact ry_rv op46_69 ms_46 rfl
  have h := (if_neg b1).symm.trans h
  by_cases b2 : a1 = 4
  · have h := (if_pos b2).symm.trans h
    refine ry_ti (w := 4) (off := 39) (tgt := 40) op46_1 (by rw [b2] <;> decide) (by decide) (by decide) (by decide) (by decide) ?_
    refine rx_p (L2 := [some (.ref q0), some (.int a1), some (.int a2)]) (S2 := [.ref q0]) (pc2 := 41) op46_40 rfl rfl ?_
    refine rx_p (L2 := [some (.ref q0), some (.int a1), some (.int a2)]) (S2 := [.int a2, .ref q0]) (pc2 := 42) op46_41 rfl rfl ?_
    obtain ⟨m10, em10, h⟩ := rq_bv h
    refine rx_pf (m2 := m10) (pc2 := 45) op46_42 hq0 rfl em10 rfl ?_
    refine ry_go (tgt := 69) op46_45 (by decide) (by decide) ?_
    obtain rfl := Option.some.inj h
    exact ry_rv op46_69 ms_46 rfl
  have h := (if_neg b2).symm.trans h
  by_cases b3 : a1 = 5
  · have h := (if_pos b3).symm.trans h
    refine ry_ti (w := 5) (off := 47) (tgt := 48) op46_1 (by rw [b3] <;> decide) (by decide) (by decide) (by decide) (by decide) ?_
    refine rx_p (L2 := [some (.ref q0), some (.int a1), some (.int a2)]) (S2 := [.ref q0]) (pc2 := 49) op46_48 rfl rfl ?_
    refine rx_p (L2 := [some (.ref q0), some (.int a1), some (.int a2)]) (S2 := [.int a2, .ref q0]) (pc2 := 50) op46_49 rfl rfl ?_
    obtain ⟨m11, em11, h⟩ := rq_bv h
    refine rx_pf (m2 := m11) (pc2 := 53) op46_50 hq0 rfl em11 rfl ?_
    refine ry_go (tgt := 69) op46_53 (by decide) (by decide) ?_
    obtain rfl := Option.some.inj h
    exact ry_rv op46_69 ms_46 rfl
  have h := (if_neg b3).symm.trans h
  by_cases b4 : a1 = 6
  · have h := (if_pos b4).symm.trans h
    refine ry_ti (w := 6) (off := 55) (tgt := 56) op46_1 (by rw [b4] <;> decide) (by decide) (by decide) (by decide) (by decide) ?_
    refine rx_p (L2 := [some (.ref q0), some (.int a1), some (.int a2)]) (S2 := [.ref q0]) (pc2 := 57) op46_56 rfl rfl ?_
    refine rx_p (L2 := [some (.ref q0), some (.int a1), some (.int a2)]) (S2 := [.int a2, .ref q0]) (pc2 := 58) op46_57 rfl rfl ?_
    obtain ⟨m12, em12, h⟩ := rq_bv h
    refine rx_pf (m2 := m12) (pc2 := 61) op46_58 hq0 rfl em12 rfl ?_
    refine ry_go (tgt := 69) op46_61 (by decide) (by decide) ?_
    obtain rfl := Option.some.inj h
    exact ry_rv op46_69 ms_46 rfl
  have h := (if_neg b4).symm.trans h
  have tb1 := rq_nt 3 (by decide) b1
  have tb2 := rq_nt 4 (by decide) b2
  have tb3 := rq_nt 5 (by decide) b3
  have tb4 := rq_nt 6 (by decide) b4
  refine ry_to (tgt := 64) op46_1 (by omega) (by decide) (by decide) ?_
  refine rx_p (L2 := [some (.ref q0), some (.int a1), some (.int a2)]) (S2 := [.ref q0]) (pc2 := 65) op46_64 rfl rfl ?_
  refine rx_p (L2 := [some (.ref q0), some (.int a1), some (.int a2)]) (S2 := [.int a2, .ref q0]) (pc2 := 66) op46_65 rfl rfl ?_
  obtain ⟨m13, em13, h⟩ := rq_bv h
  refine rx_pf (m2 := m13) (pc2 := 69) op46_66 hq0 rfl em13 rfl ?_
  obtain rfl := Option.some.inj h
  exact ry_rv op46_69 ms_46 rfl
/-! lt_set -/
theorem op44_0 : rn_op 44 0 = some (.iload_n 1, 1, 0, 0, 0) := by decide +kernel
theorem op44_1 : rn_op 44 1 = some (.iload_n 2, 1, 0, 0, 0) := by decide +kernel
theorem op44_2 : rn_op 44 2 = some (.invokestatic 114, 3, 45, 2, 0) := by decide +kernel
theorem op44_5 : rn_op 44 5 = some (.ifCond .ne 5, 3, 0, 0, 0) := by decide +kernel
theorem op44_8 : rn_op 44 8 = some (.iconst (-1), 1, 0, 0, 0) := by decide +kernel
theorem op44_9 : rn_op 44 9 = some (.ireturn, 1, 0, 0, 0) := by decide +kernel
theorem op44_10 : rn_op 44 10 = some (.aload_n 0, 1, 0, 0, 0) := by decide +kernel
theorem op44_11 : rn_op 44 11 = some (.getfield 19, 3, 10, 1, 3) := by decide +kernel
theorem op44_14 : rn_op 44 14 = some (.getfield 62, 3, 6, 0, 3) := by decide +kernel
theorem op44_17 : rn_op 44 17 = some (.getfield 89, 3, 1, 0, 2) := by decide +kernel
theorem op44_20 : rn_op 44 20 = some (.ifCond .ne 6, 3, 0, 0, 0) := by decide +kernel
theorem op44_23 : rn_op 44 23 = some (.bipush (-2), 2, 0, 0, 0) := by decide +kernel
theorem op44_25 : rn_op 44 25 = some (.ireturn, 1, 0, 0, 0) := by decide +kernel
theorem op44_26 : rn_op 44 26 = some (.iload_n 1, 1, 0, 0, 0) := by decide +kernel
theorem op44_27 : rn_op 44 27 = some (.bipush 7, 2, 0, 0, 0) := by decide +kernel
theorem op44_29 : rn_op 44 29 = some (.if_icmp .ne 19, 3, 0, 0, 0) := by decide +kernel
theorem op44_32 : rn_op 44 32 = some (.iload_n 2, 1, 0, 0, 0) := by decide +kernel
theorem op44_33 : rn_op 44 33 = some (.aload_n 0, 1, 0, 0, 0) := by decide +kernel
theorem op44_34 : rn_op 44 34 = some (.getfield 19, 3, 10, 1, 3) := by decide +kernel
theorem op44_37 : rn_op 44 37 = some (.getfield 62, 3, 6, 0, 3) := by decide +kernel
theorem op44_40 : rn_op 44 40 = some (.getfield 118, 3, 1, 1, 0) := by decide +kernel
theorem op44_43 : rn_op 44 43 = some (.if_icmp .lt 5, 3, 0, 0, 0) := by decide +kernel
theorem op44_46 : rn_op 44 46 = some (.iconst (-1), 1, 0, 0, 0) := by decide +kernel
theorem op44_47 : rn_op 44 47 = some (.ireturn, 1, 0, 0, 0) := by decide +kernel
theorem op44_48 : rn_op 44 48 = some (.aload_n 0, 1, 0, 0, 0) := by decide +kernel
theorem op44_49 : rn_op 44 49 = some (.getfield 19, 3, 10, 1, 3) := by decide +kernel
theorem op44_52 : rn_op 44 52 = some (.getfield 62, 3, 6, 0, 3) := by decide +kernel
theorem op44_55 : rn_op 44 55 = some (.iload_n 1, 1, 0, 0, 0) := by decide +kernel
theorem op44_56 : rn_op 44 56 = some (.iload_n 2, 1, 0, 0, 0) := by decide +kernel
theorem op44_57 : rn_op 44 57 = some (.invokevirtual 121, 3, 46, 3, 1) := by decide +kernel
theorem op44_60 : rn_op 44 60 = some (.aload_n 0, 1, 0, 0, 0) := by decide +kernel
theorem op44_61 : rn_op 44 61 = some (.getfield 19, 3, 10, 1, 3) := by decide +kernel
theorem op44_64 : rn_op 44 64 = some (.getfield 125, 3, 6, 3, 3) := by decide +kernel
theorem op44_67 : rn_op 44 67 = some (.iconst 0, 1, 0, 0, 0) := by decide +kernel
theorem op44_68 : rn_op 44 68 = some (.putfield 129, 3, 3, 0, 2) := by decide +kernel
theorem op44_71 : rn_op 44 71 = some (.aload_n 0, 1, 0, 0, 0) := by decide +kernel
theorem op44_72 : rn_op 44 72 = some (.iconst 0, 1, 0, 0, 0) := by decide +kernel
theorem op44_73 : rn_op 44 73 = some (.putfield 81, 3, 10, 8, 0) := by decide +kernel
theorem op44_76 : rn_op 44 76 = some (.iconst 1, 1, 0, 0, 0) := by decide +kernel
theorem op44_77 : rn_op 44 77 = some (.ireturn, 1, 0, 0, 0) := by decide +kernel
def lt_set (n : Nat) (a1 : Int32) (a2 : Int32) (m : rn_Mem) : Option (Int32 × rn_Mem) :=
  (ga_lawful n a1 a2 m).bind fun (r2, m1) =>
  if r2 = 0 then
    some ((-1), m1)
  else
    if (m1.1 4 0) = 0 then
      some ((-2), m1)
    else
      if a1 = 7 then
        if a2 < (m1.1 4 1) then
          (ga_change n 4 a1 a2 m1).bind fun m9 =>
          (some (rm_i m9 14 0 0)).bind fun (m11 : rn_Mem) =>
          (some (rm_i m11 0 8 0)).bind fun (m12 : rn_Mem) =>
          some (1, m12)
        else
          some ((-1), m1)
      else
        (ga_change n 4 a1 a2 m1).bind fun m13 =>
        (some (rm_i m13 14 0 0)).bind fun (m15 : rn_Mem) =>
        (some (rm_i m15 0 8 0)).bind fun (m16 : rn_Mem) =>
        some (1, m16)
set_option maxHeartbeats 4000000 in
set_option maxRecDepth 20000 in
theorem lt_set_ok (xs : List Int32) {d : Nat} (hd : 1 ≤ d) {n : Nat} {a1 : Int32} {a2 : Int32} {m mO : rn_Mem} {rO : Int32} (h : lt_set n a1 a2 m = some (rO, mO)) : rn_R xs d 44 0 (rn_ent 3 [.ref 0, .int a1, .int a2]) [] (rn_SH, m) (some (.int rO)) (rn_SH, mO) := by
  obtain ⟨d, rfl⟩ : ∃ e, d = e + 1 := ⟨d - 1, by omega⟩
  unfold lt_set at h
  show rn_R xs (d + 1) 44 0 [some (.ref 0), some (.int a1), some (.int a2)] [] (rn_SH, m) (some (.int rO)) (rn_SH, mO)
  refine rx_p (L2 := [some (.ref 0), some (.int a1), some (.int a2)]) (S2 := [.int a1]) (pc2 := 1) op44_0 rfl rfl ?_
  refine rx_p (L2 := [some (.ref 0), some (.int a1), some (.int a2)]) (S2 := [.int a2, .int a1]) (pc2 := 2) op44_1 rfl rfl ?_
  obtain ⟨⟨r2, m1⟩, f3, h⟩ := rq_bind h
  try dsimp only at h
  refine ry_is (vs := [.int a1, .int a2]) (T := []) (pc2 := 5) op44_2 (by decide) ms_45 (by decide) rfl rfl (Nat.le_of_ble_eq_true rfl) (Nat.le_of_ble_eq_true rfl) (ga_lawful_ok xs (by omega)  f3) rfl ?_
  show rn_R _ _ _ _ _ [.int r2] _ _ _
  refine ry_if_ne (tgt := 10) (pc2 := 8) op44_5 (by decide) (by decide) rfl (fun b4 => ?_) (fun b4 => ?_)
  · have h := (if_pos b4).symm.trans h
    refine rx_ic (v := (-1)) (pc2 := 9) op44_8 (by decide) rfl ?_
    obtain ⟨rfl, rfl⟩ := rq_ret h
    exact ry_ri op44_9 ms_44 rfl
  · have h := (if_neg b4).symm.trans h
    refine rx_p (L2 := [some (.ref 0), some (.int a1), some (.int a2)]) (S2 := [.ref 0]) (pc2 := 11) op44_10 rfl rfl ?_
    refine rx_gf (v := .ref 3) (pc2 := 14) op44_11 sp_0 rfl rfl rfl ?_
    refine rx_gf (v := .ref 4) (pc2 := 17) op44_14 sp_3 rfl rfl rfl ?_
    refine rx_gf (v := .int (m1.1 4 0)) (pc2 := 20) op44_17 sp_4 rfl rfl rfl ?_
    refine ry_if_ne (tgt := 26) (pc2 := 23) op44_20 (by decide) (by decide) rfl (fun b5 => ?_) (fun b5 => ?_)
    · have h := (if_pos b5).symm.trans h
      refine rx_bp (v := (-2)) (pc2 := 25) op44_23 (by decide) rfl ?_
      obtain ⟨rfl, rfl⟩ := rq_ret h
      exact ry_ri op44_25 ms_44 rfl
    · have h := (if_neg b5).symm.trans h
      refine rx_p (L2 := [some (.ref 0), some (.int a1), some (.int a2)]) (S2 := [.int a1]) (pc2 := 27) op44_26 rfl rfl ?_
      refine rx_bp (v := 7) (pc2 := 29) op44_27 (by decide) rfl ?_
      refine ry_ic_ne (tgt := 48) (pc2 := 32) op44_29 (by decide) (by decide) rfl (fun b6 => ?_) (fun b6 => ?_)
      · have h := (if_pos b6).symm.trans h
        refine rx_p (L2 := [some (.ref 0), some (.int a1), some (.int a2)]) (S2 := [.int a2]) (pc2 := 33) op44_32 rfl rfl ?_
        refine rx_p (L2 := [some (.ref 0), some (.int a1), some (.int a2)]) (S2 := [.ref 0, .int a2]) (pc2 := 34) op44_33 rfl rfl ?_
        refine rx_gf (v := .ref 3) (pc2 := 37) op44_34 sp_0 rfl rfl rfl ?_
        refine rx_gf (v := .ref 4) (pc2 := 40) op44_37 sp_3 rfl rfl rfl ?_
        refine rx_gf (v := .int (m1.1 4 1)) (pc2 := 43) op44_40 sp_4 rfl rfl rfl ?_
        refine ry_ic_lt (tgt := 48) (pc2 := 46) op44_43 (by decide) (by decide) rfl (fun b8 => ?_) (fun b8 => ?_)
        · have h := (if_pos b8).symm.trans h
          refine rx_p (L2 := [some (.ref 0), some (.int a1), some (.int a2)]) (S2 := [.ref 0]) (pc2 := 49) op44_48 rfl rfl ?_
          refine rx_gf (v := .ref 3) (pc2 := 52) op44_49 sp_0 rfl rfl rfl ?_
          refine rx_gf (v := .ref 4) (pc2 := 55) op44_52 sp_3 rfl rfl rfl ?_
          refine rx_p (L2 := [some (.ref 0), some (.int a1), some (.int a2)]) (S2 := [.int a1, .ref 4]) (pc2 := 56) op44_55 rfl rfl ?_
          refine rx_p (L2 := [some (.ref 0), some (.int a1), some (.int a2)]) (S2 := [.int a2, .int a1, .ref 4]) (pc2 := 57) op44_56 rfl rfl ?_
          obtain ⟨m9, f10, h⟩ := rq_bind h
          try dsimp only at h
          refine ry_iv (p := 4) (vs := [.int a1, .int a2]) (T := []) (pc2 := 60) op44_57 ms_46 (by decide) rfl rfl (Nat.le_of_ble_eq_true rfl) (Nat.le_of_ble_eq_true rfl) sp_4 (ga_change_ok xs (by omega) sa_4 f10) rfl ?_
          show rn_R _ _ _ _ _ [] _ _ _
          refine rx_p (L2 := [some (.ref 0), some (.int a1), some (.int a2)]) (S2 := [.ref 0]) (pc2 := 61) op44_60 rfl rfl ?_
          refine rx_gf (v := .ref 3) (pc2 := 64) op44_61 sp_0 rfl rfl rfl ?_
          refine rx_gf (v := .ref 14) (pc2 := 67) op44_64 sp_3 rfl rfl rfl ?_
          refine rx_ic (v := 0) (pc2 := 68) op44_67 (by decide) rfl ?_
          obtain ⟨m11, em11, h⟩ := rq_bv h
          refine rx_pz (m2 := m11) (pc2 := 71) op44_68 sp_14 rfl (by decide) em11 rfl ?_
          refine rx_p (L2 := [some (.ref 0), some (.int a1), some (.int a2)]) (S2 := [.ref 0]) (pc2 := 72) op44_71 rfl rfl ?_
          refine rx_ic (v := 0) (pc2 := 73) op44_72 (by decide) rfl ?_
          obtain ⟨m12, em12, h⟩ := rq_bv h
          refine rx_pf (m2 := m12) (pc2 := 76) op44_73 sp_0 rfl em12 rfl ?_
          refine rx_ic (v := 1) (pc2 := 77) op44_76 (by decide) rfl ?_
          obtain ⟨rfl, rfl⟩ := rq_ret h
          exact ry_ri op44_77 ms_44 rfl
        · have h := (if_neg b8).symm.trans h
          refine rx_ic (v := (-1)) (pc2 := 47) op44_46 (by decide) rfl ?_
          obtain ⟨rfl, rfl⟩ := rq_ret h
          exact ry_ri op44_47 ms_44 rfl
      · have h := (if_neg b6).symm.trans h
        refine rx_p (L2 := [some (.ref 0), some (.int a1), some (.int a2)]) (S2 := [.ref 0]) (pc2 := 49) op44_48 rfl rfl ?_
        refine rx_gf (v := .ref 3) (pc2 := 52) op44_49 sp_0 rfl rfl rfl ?_
        refine rx_gf (v := .ref 4) (pc2 := 55) op44_52 sp_3 rfl rfl rfl ?_
        refine rx_p (L2 := [some (.ref 0), some (.int a1), some (.int a2)]) (S2 := [.int a1, .ref 4]) (pc2 := 56) op44_55 rfl rfl ?_
        refine rx_p (L2 := [some (.ref 0), some (.int a1), some (.int a2)]) (S2 := [.int a2, .int a1, .ref 4]) (pc2 := 57) op44_56 rfl rfl ?_
        obtain ⟨m13, f14, h⟩ := rq_bind h
        try dsimp only at h
        refine ry_iv (p := 4) (vs := [.int a1, .int a2]) (T := []) (pc2 := 60) op44_57 ms_46 (by decide) rfl rfl (Nat.le_of_ble_eq_true rfl) (Nat.le_of_ble_eq_true rfl) sp_4 (ga_change_ok xs (by omega) sa_4 f14) rfl ?_
        show rn_R _ _ _ _ _ [] _ _ _
        refine rx_p (L2 := [some (.ref 0), some (.int a1), some (.int a2)]) (S2 := [.ref 0]) (pc2 := 61) op44_60 rfl rfl ?_
        refine rx_gf (v := .ref 3) (pc2 := 64) op44_61 sp_0 rfl rfl rfl ?_
        refine rx_gf (v := .ref 14) (pc2 := 67) op44_64 sp_3 rfl rfl rfl ?_
        refine rx_ic (v := 0) (pc2 := 68) op44_67 (by decide) rfl ?_
        obtain ⟨m15, em15, h⟩ := rq_bv h
        refine rx_pz (m2 := m15) (pc2 := 71) op44_68 sp_14 rfl (by decide) em15 rfl ?_
        refine rx_p (L2 := [some (.ref 0), some (.int a1), some (.int a2)]) (S2 := [.ref 0]) (pc2 := 72) op44_71 rfl rfl ?_
        refine rx_ic (v := 0) (pc2 := 73) op44_72 (by decide) rfl ?_
        obtain ⟨m16, em16, h⟩ := rq_bv h
        refine rx_pf (m2 := m16) (pc2 := 76) op44_73 sp_0 rfl em16 rfl ?_
        refine rx_ic (v := 1) (pc2 := 77) op44_76 (by decide) rfl ?_
        obtain ⟨rfl, rfl⟩ := rq_ret h
        exact ry_ri op44_77 ms_44 rfl
/-! ta_cardAt -/
theorem op48_0 : rn_op 48 0 = some (.aload_n 0, 1, 0, 0, 0) := by decide +kernel
theorem op48_1 : rn_op 48 1 = some (.getfield 18, 3, 7, 3, 3) := by decide +kernel
theorem op48_4 : rn_op 48 4 = some (.iload_n 1, 1, 0, 0, 0) := by decide +kernel
theorem op48_5 : rn_op 48 5 = some (.bipush 12, 2, 0, 0, 0) := by decide +kernel
theorem op48_7 : rn_op 48 7 = some (.imul, 1, 0, 0, 0) := by decide +kernel
theorem op48_8 : rn_op 48 8 = some (.iload_n 2, 1, 0, 0, 0) := by decide +kernel
theorem op48_9 : rn_op 48 9 = some (.iadd, 1, 0, 0, 0) := by decide +kernel
theorem op48_10 : rn_op 48 10 = some (.iaload, 1, 0, 0, 0) := by decide +kernel
theorem op48_11 : rn_op 48 11 = some (.ireturn, 1, 0, 0, 0) := by decide +kernel
def ta_cardAt (n : Nat) (q0 : Nat) (a1 : Int32) (a2 : Int32) (m : rn_Mem) : Option (Int32 × rn_Mem) :=
  if rn_in ((a1 * 12) + a2) 48 = true then
    some (m.1 (q0 + 3) ((a1 * 12) + a2).toNatClampNeg, m)
  else none
set_option maxHeartbeats 4000000 in
set_option maxRecDepth 20000 in
theorem ta_cardAt_ok (xs : List Int32) {d : Nat} (hd : 0 ≤ d) {n : Nat} {q0 : Nat} {a1 : Int32} {a2 : Int32} {m mO : rn_Mem} {rO : Int32} (hq0 : sA_Table q0) (h : ta_cardAt n q0 a1 a2 m = some (rO, mO)) : rn_R xs d 48 0 (rn_ent 3 [.ref q0, .int a1, .int a2]) [] (rn_SH, m) (some (.int rO)) (rn_SH, mO) := by
  unfold ta_cardAt at h
  show rn_R xs d 48 0 [some (.ref q0), some (.int a1), some (.int a2)] [] (rn_SH, m) (some (.int rO)) (rn_SH, mO)
  refine rx_p (L2 := [some (.ref q0), some (.int a1), some (.int a2)]) (S2 := [.ref q0]) (pc2 := 1) op48_0 rfl rfl ?_
  refine rx_gf (v := .ref (q0 + 3)) (pc2 := 4) op48_1 (hq0.1) rfl rfl rfl ?_
  refine rx_p (L2 := [some (.ref q0), some (.int a1), some (.int a2)]) (S2 := [.int a1, .ref (q0 + 3)]) (pc2 := 5) op48_4 rfl rfl ?_
  refine rx_bp (v := 12) (pc2 := 7) op48_5 (by decide) rfl ?_
  refine rx_p (L2 := [some (.ref q0), some (.int a1), some (.int a2)]) (S2 := [.int (a1 * 12), .ref (q0 + 3)]) (pc2 := 8) op48_7 rfl rfl ?_
  refine rx_p (L2 := [some (.ref q0), some (.int a1), some (.int a2)]) (S2 := [.int a2, .int (a1 * 12), .ref (q0 + 3)]) (pc2 := 9) op48_8 rfl rfl ?_
  refine rx_p (L2 := [some (.ref q0), some (.int a1), some (.int a2)]) (S2 := [.int ((a1 * 12) + a2), .ref (q0 + 3)]) (pc2 := 10) op48_9 rfl rfl ?_
  obtain ⟨k1, h⟩ := rq_chk h
  refine rx_ia (pc2 := 11) op48_10 (rn_shlt (hq0.2.2.2)) (hq0.2.2.2) k1 rfl rfl ?_
  obtain ⟨rfl, rfl⟩ := rq_ret h
  exact ry_ri op48_11 ms_48 rfl
/-! lt_heap -/
theorem op47_0 : rn_op 47 0 = some (.iload_n 1, 1, 0, 0, 0) := by decide +kernel
theorem op47_1 : rn_op 47 1 = some (.invokestatic 132, 3, 39, 1, 0) := by decide +kernel
theorem op47_4 : rn_op 47 4 = some (.ifCond .ne 14, 3, 0, 0, 0) := by decide +kernel
theorem op47_7 : rn_op 47 7 = some (.iload_n 2, 1, 0, 0, 0) := by decide +kernel
theorem op47_8 : rn_op 47 8 = some (.iconst (-1), 1, 0, 0, 0) := by decide +kernel
theorem op47_9 : rn_op 47 9 = some (.if_icmp .lt 9, 3, 0, 0, 0) := by decide +kernel
theorem op47_12 : rn_op 47 12 = some (.iload_n 2, 1, 0, 0, 0) := by decide +kernel
theorem op47_13 : rn_op 47 13 = some (.bipush 12, 2, 0, 0, 0) := by decide +kernel
theorem op47_15 : rn_op 47 15 = some (.if_icmp .lt 5, 3, 0, 0, 0) := by decide +kernel
theorem op47_18 : rn_op 47 18 = some (.iconst (-1), 1, 0, 0, 0) := by decide +kernel
theorem op47_19 : rn_op 47 19 = some (.ireturn, 1, 0, 0, 0) := by decide +kernel
theorem op47_20 : rn_op 47 20 = some (.aload_n 0, 1, 0, 0, 0) := by decide +kernel
theorem op47_21 : rn_op 47 21 = some (.getfield 19, 3, 10, 1, 3) := by decide +kernel
theorem op47_24 : rn_op 47 24 = some (.getfield 93, 3, 6, 1, 3) := by decide +kernel
theorem op47_27 : rn_op 47 27 = some (.getfield 136, 3, 7, 0, 2) := by decide +kernel
theorem op47_30 : rn_op 47 30 = some (.ifCond .ne 6, 3, 0, 0, 0) := by decide +kernel
theorem op47_33 : rn_op 47 33 = some (.bipush (-2), 2, 0, 0, 0) := by decide +kernel
theorem op47_35 : rn_op 47 35 = some (.ireturn, 1, 0, 0, 0) := by decide +kernel
theorem op47_36 : rn_op 47 36 = some (.iload_n 1, 1, 0, 0, 0) := by decide +kernel
theorem op47_37 : rn_op 47 37 = some (.aload_n 0, 1, 0, 0, 0) := by decide +kernel
theorem op47_38 : rn_op 47 38 = some (.getfield 19, 3, 10, 1, 3) := by decide +kernel
theorem op47_41 : rn_op 47 41 = some (.getfield 62, 3, 6, 0, 3) := by decide +kernel
theorem op47_44 : rn_op 47 44 = some (.getfield 118, 3, 1, 1, 0) := by decide +kernel
theorem op47_47 : rn_op 47 47 = some (.if_icmp .ge 19, 3, 0, 0, 0) := by decide +kernel
theorem op47_50 : rn_op 47 50 = some (.iload_n 2, 1, 0, 0, 0) := by decide +kernel
theorem op47_51 : rn_op 47 51 = some (.aload_n 0, 1, 0, 0, 0) := by decide +kernel
theorem op47_52 : rn_op 47 52 = some (.getfield 19, 3, 10, 1, 3) := by decide +kernel
theorem op47_55 : rn_op 47 55 = some (.getfield 93, 3, 6, 1, 3) := by decide +kernel
theorem op47_58 : rn_op 47 58 = some (.getfield 137, 3, 7, 1, 3) := by decide +kernel
theorem op47_61 : rn_op 47 61 = some (.iload_n 1, 1, 0, 0, 0) := by decide +kernel
theorem op47_62 : rn_op 47 62 = some (.iaload, 1, 0, 0, 0) := by decide +kernel
theorem op47_63 : rn_op 47 63 = some (.if_icmp .lt 5, 3, 0, 0, 0) := by decide +kernel
theorem op47_66 : rn_op 47 66 = some (.iconst (-1), 1, 0, 0, 0) := by decide +kernel
theorem op47_67 : rn_op 47 67 = some (.ireturn, 1, 0, 0, 0) := by decide +kernel
theorem op47_68 : rn_op 47 68 = some (.iload_n 2, 1, 0, 0, 0) := by decide +kernel
theorem op47_69 : rn_op 47 69 = some (.ifCond .ge 18, 3, 0, 0, 0) := by decide +kernel
theorem op47_72 : rn_op 47 72 = some (.aload_n 0, 1, 0, 0, 0) := by decide +kernel
theorem op47_73 : rn_op 47 73 = some (.getfield 19, 3, 10, 1, 3) := by decide +kernel
theorem op47_76 : rn_op 47 76 = some (.getfield 93, 3, 6, 1, 3) := by decide +kernel
theorem op47_79 : rn_op 47 79 = some (.getfield 137, 3, 7, 1, 3) := by decide +kernel
theorem op47_82 : rn_op 47 82 = some (.iload_n 1, 1, 0, 0, 0) := by decide +kernel
theorem op47_83 : rn_op 47 83 = some (.iaload, 1, 0, 0, 0) := by decide +kernel
theorem op47_84 : rn_op 47 84 = some (.goto 15, 3, 0, 0, 0) := by decide +kernel
theorem op47_87 : rn_op 47 87 = some (.aload_n 0, 1, 0, 0, 0) := by decide +kernel
theorem op47_88 : rn_op 47 88 = some (.getfield 19, 3, 10, 1, 3) := by decide +kernel
theorem op47_91 : rn_op 47 91 = some (.getfield 93, 3, 6, 1, 3) := by decide +kernel
theorem op47_94 : rn_op 47 94 = some (.iload_n 1, 1, 0, 0, 0) := by decide +kernel
theorem op47_95 : rn_op 47 95 = some (.iload_n 2, 1, 0, 0, 0) := by decide +kernel
theorem op47_96 : rn_op 47 96 = some (.invokevirtual 140, 3, 48, 3, 7) := by decide +kernel
theorem op47_99 : rn_op 47 99 = some (.ireturn, 1, 0, 0, 0) := by decide +kernel
def lt_heap (n : Nat) (a1 : Int32) (a2 : Int32) (m : rn_Mem) : Option (Int32 × rn_Mem) :=
  (lt_isNoChair n a1 m).bind fun (r2, m1) =>
  if r2 = 0 then
    if a2 < (-1) then
      some ((-1), m1)
    else
      if a2 < 12 then
        if (m1.1 5 0) = 0 then
          some ((-2), m1)
        else
          if a1 < (m1.1 4 1) then
            if rn_in a1 4 = true then
              if a2 < (m1.1 6 a1.toNatClampNeg) then
                if a2 < 0 then
                  if rn_in a1 4 = true then
                    some (m1.1 6 a1.toNatClampNeg, m1)
                  else none
                else
                  (ta_cardAt n 5 a1 a2 m1).bind fun (r14, m13) =>
                  some (r14, m13)
              else
                some ((-1), m1)
            else none
          else
            some ((-1), m1)
      else
        some ((-1), m1)
  else
    some ((-1), m1)
set_option maxHeartbeats 4000000 in
set_option maxRecDepth 20000 in
theorem lt_heap_ok (xs : List Int32) {d : Nat} (hd : 1 ≤ d) {n : Nat} {a1 : Int32} {a2 : Int32} {m mO : rn_Mem} {rO : Int32} (h : lt_heap n a1 a2 m = some (rO, mO)) : rn_R xs d 47 0 (rn_ent 3 [.ref 0, .int a1, .int a2]) [] (rn_SH, m) (some (.int rO)) (rn_SH, mO) := by
  obtain ⟨d, rfl⟩ : ∃ e, d = e + 1 := ⟨d - 1, by omega⟩
  unfold lt_heap at h
  show rn_R xs (d + 1) 47 0 [some (.ref 0), some (.int a1), some (.int a2)] [] (rn_SH, m) (some (.int rO)) (rn_SH, mO)
  refine rx_p (L2 := [some (.ref 0), some (.int a1), some (.int a2)]) (S2 := [.int a1]) (pc2 := 1) op47_0 rfl rfl ?_
  obtain ⟨⟨r2, m1⟩, f3, h⟩ := rq_bind h
  try dsimp only at h
  refine ry_is (vs := [.int a1]) (T := []) (pc2 := 4) op47_1 (by decide) ms_39 (by decide) rfl rfl (Nat.le_of_ble_eq_true rfl) (Nat.le_of_ble_eq_true rfl) (lt_isNoChair_ok xs (by omega)  f3) rfl ?_
  show rn_R _ _ _ _ _ [.int r2] _ _ _
  refine ry_if_ne (tgt := 18) (pc2 := 7) op47_4 (by decide) (by decide) rfl (fun b4 => ?_) (fun b4 => ?_)
  · have h := (if_pos b4).symm.trans h
    refine rx_p (L2 := [some (.ref 0), some (.int a1), some (.int a2)]) (S2 := [.int a2]) (pc2 := 8) op47_7 rfl rfl ?_
    refine rx_ic (v := (-1)) (pc2 := 9) op47_8 (by decide) rfl ?_
    refine ry_ic_lt (tgt := 18) (pc2 := 12) op47_9 (by decide) (by decide) rfl (fun b5 => ?_) (fun b5 => ?_)
    · have h := (if_pos b5).symm.trans h
      refine rx_ic (v := (-1)) (pc2 := 19) op47_18 (by decide) rfl ?_
      obtain ⟨rfl, rfl⟩ := rq_ret h
      exact ry_ri op47_19 ms_47 rfl
    · have h := (if_neg b5).symm.trans h
      refine rx_p (L2 := [some (.ref 0), some (.int a1), some (.int a2)]) (S2 := [.int a2]) (pc2 := 13) op47_12 rfl rfl ?_
      refine rx_bp (v := 12) (pc2 := 15) op47_13 (by decide) rfl ?_
      refine ry_ic_lt (tgt := 20) (pc2 := 18) op47_15 (by decide) (by decide) rfl (fun b6 => ?_) (fun b6 => ?_)
      · have h := (if_pos b6).symm.trans h
        refine rx_p (L2 := [some (.ref 0), some (.int a1), some (.int a2)]) (S2 := [.ref 0]) (pc2 := 21) op47_20 rfl rfl ?_
        refine rx_gf (v := .ref 3) (pc2 := 24) op47_21 sp_0 rfl rfl rfl ?_
        refine rx_gf (v := .ref 5) (pc2 := 27) op47_24 sp_3 rfl rfl rfl ?_
        refine rx_gf (v := .int (m1.1 5 0)) (pc2 := 30) op47_27 sp_5 rfl rfl rfl ?_
        refine ry_if_ne (tgt := 36) (pc2 := 33) op47_30 (by decide) (by decide) rfl (fun b7 => ?_) (fun b7 => ?_)
        · have h := (if_pos b7).symm.trans h
          refine rx_bp (v := (-2)) (pc2 := 35) op47_33 (by decide) rfl ?_
          obtain ⟨rfl, rfl⟩ := rq_ret h
          exact ry_ri op47_35 ms_47 rfl
        · have h := (if_neg b7).symm.trans h
          refine rx_p (L2 := [some (.ref 0), some (.int a1), some (.int a2)]) (S2 := [.int a1]) (pc2 := 37) op47_36 rfl rfl ?_
          refine rx_p (L2 := [some (.ref 0), some (.int a1), some (.int a2)]) (S2 := [.ref 0, .int a1]) (pc2 := 38) op47_37 rfl rfl ?_
          refine rx_gf (v := .ref 3) (pc2 := 41) op47_38 sp_0 rfl rfl rfl ?_
          refine rx_gf (v := .ref 4) (pc2 := 44) op47_41 sp_3 rfl rfl rfl ?_
          refine rx_gf (v := .int (m1.1 4 1)) (pc2 := 47) op47_44 sp_4 rfl rfl rfl ?_
          refine ry_ic_ge (tgt := 66) (pc2 := 50) op47_47 (by decide) (by decide) rfl (fun b8 => ?_) (fun b8 => ?_)
          · have h := (if_pos b8).symm.trans h
            refine rx_p (L2 := [some (.ref 0), some (.int a1), some (.int a2)]) (S2 := [.int a2]) (pc2 := 51) op47_50 rfl rfl ?_
            refine rx_p (L2 := [some (.ref 0), some (.int a1), some (.int a2)]) (S2 := [.ref 0, .int a2]) (pc2 := 52) op47_51 rfl rfl ?_
            refine rx_gf (v := .ref 3) (pc2 := 55) op47_52 sp_0 rfl rfl rfl ?_
            refine rx_gf (v := .ref 5) (pc2 := 58) op47_55 sp_3 rfl rfl rfl ?_
            refine rx_gf (v := .ref 6) (pc2 := 61) op47_58 sp_5 rfl rfl rfl ?_
            refine rx_p (L2 := [some (.ref 0), some (.int a1), some (.int a2)]) (S2 := [.int a1, .ref 6, .int a2]) (pc2 := 62) op47_61 rfl rfl ?_
            obtain ⟨k9, h⟩ := rq_chk h
            refine rx_ia (pc2 := 63) op47_62 (rn_shlt sp_6) sp_6 k9 rfl rfl ?_
            refine ry_ic_lt (tgt := 68) (pc2 := 66) op47_63 (by decide) (by decide) rfl (fun b10 => ?_) (fun b10 => ?_)
            · have h := (if_pos b10).symm.trans h
              refine rx_p (L2 := [some (.ref 0), some (.int a1), some (.int a2)]) (S2 := [.int a2]) (pc2 := 69) op47_68 rfl rfl ?_
              refine ry_if_ge (tgt := 87) (pc2 := 72) op47_69 (by decide) (by decide) rfl (fun b11 => ?_) (fun b11 => ?_)
              · have h := (if_pos b11).symm.trans h
                refine rx_p (L2 := [some (.ref 0), some (.int a1), some (.int a2)]) (S2 := [.ref 0]) (pc2 := 73) op47_72 rfl rfl ?_
                refine rx_gf (v := .ref 3) (pc2 := 76) op47_73 sp_0 rfl rfl rfl ?_
                refine rx_gf (v := .ref 5) (pc2 := 79) op47_76 sp_3 rfl rfl rfl ?_
                refine rx_gf (v := .ref 6) (pc2 := 82) op47_79 sp_5 rfl rfl rfl ?_
                refine rx_p (L2 := [some (.ref 0), some (.int a1), some (.int a2)]) (S2 := [.int a1, .ref 6]) (pc2 := 83) op47_82 rfl rfl ?_
                obtain ⟨k12, h⟩ := rq_chk h
                refine rx_ia (pc2 := 84) op47_83 (rn_shlt sp_6) sp_6 k12 rfl rfl ?_
                refine ry_go (tgt := 99) op47_84 (by decide) (by decide) ?_
                obtain ⟨rfl, rfl⟩ := rq_ret h
                exact ry_ri op47_99 ms_47 rfl
              · have h := (if_neg b11).symm.trans h
                refine rx_p (L2 := [some (.ref 0), some (.int a1), some (.int a2)]) (S2 := [.ref 0]) (pc2 := 88) op47_87 rfl rfl ?_
                refine rx_gf (v := .ref 3) (pc2 := 91) op47_88 sp_0 rfl rfl rfl ?_
                refine rx_gf (v := .ref 5) (pc2 := 94) op47_91 sp_3 rfl rfl rfl ?_
                refine rx_p (L2 := [some (.ref 0), some (.int a1), some (.int a2)]) (S2 := [.int a1, .ref 5]) (pc2 := 95) op47_94 rfl rfl ?_
                refine rx_p (L2 := [some (.ref 0), some (.int a1), some (.int a2)]) (S2 := [.int a2, .int a1, .ref 5]) (pc2 := 96) op47_95 rfl rfl ?_
                obtain ⟨⟨r14, m13⟩, f15, h⟩ := rq_bind h
                try dsimp only at h
                refine ry_iv (p := 5) (vs := [.int a1, .int a2]) (T := []) (pc2 := 99) op47_96 ms_48 (by decide) rfl rfl (Nat.le_of_ble_eq_true rfl) (Nat.le_of_ble_eq_true rfl) sp_5 (ta_cardAt_ok xs (by omega) sa_5 f15) rfl ?_
                show rn_R _ _ _ _ _ [.int r14] _ _ _
                obtain ⟨rfl, rfl⟩ := rq_ret h
                exact ry_ri op47_99 ms_47 rfl
            · have h := (if_neg b10).symm.trans h
              refine rx_ic (v := (-1)) (pc2 := 67) op47_66 (by decide) rfl ?_
              obtain ⟨rfl, rfl⟩ := rq_ret h
              exact ry_ri op47_67 ms_47 rfl
          · have h := (if_neg b8).symm.trans h
            refine rx_ic (v := (-1)) (pc2 := 67) op47_66 (by decide) rfl ?_
            obtain ⟨rfl, rfl⟩ := rq_ret h
            exact ry_ri op47_67 ms_47 rfl
      · have h := (if_neg b6).symm.trans h
        refine rx_ic (v := (-1)) (pc2 := 19) op47_18 (by decide) rfl ?_
        obtain ⟨rfl, rfl⟩ := rq_ret h
        exact ry_ri op47_19 ms_47 rfl
  · have h := (if_neg b4).symm.trans h
    refine rx_ic (v := (-1)) (pc2 := 19) op47_18 (by decide) rfl ?_
    obtain ⟨rfl, rfl⟩ := rq_ret h
    exact ry_ri op47_19 ms_47 rfl
/-! ga_has -/
theorem op50_0 : rn_op 50 0 = some (.iload_n 1, 1, 0, 0, 0) := by decide +kernel
theorem op50_1 : rn_op 50 1 = some (.ifCond .lt 24, 3, 0, 0, 0) := by decide +kernel
theorem op50_4 : rn_op 50 4 = some (.iload_n 1, 1, 0, 0, 0) := by decide +kernel
theorem op50_5 : rn_op 50 5 = some (.bipush 16, 2, 0, 0, 0) := by decide +kernel
theorem op50_7 : rn_op 50 7 = some (.if_icmp .ge 18, 3, 0, 0, 0) := by decide +kernel
theorem op50_10 : rn_op 50 10 = some (.aload_n 0, 1, 0, 0, 0) := by decide +kernel
theorem op50_11 : rn_op 50 11 = some (.getfield 24, 3, 1, 3, 0) := by decide +kernel
theorem op50_14 : rn_op 50 14 = some (.iload_n 1, 1, 0, 0, 0) := by decide +kernel
theorem op50_15 : rn_op 50 15 = some (.ishr, 1, 0, 0, 0) := by decide +kernel
theorem op50_16 : rn_op 50 16 = some (.iconst 1, 1, 0, 0, 0) := by decide +kernel
theorem op50_17 : rn_op 50 17 = some (.iand, 1, 0, 0, 0) := by decide +kernel
theorem op50_18 : rn_op 50 18 = some (.ifCond .eq 7, 3, 0, 0, 0) := by decide +kernel
theorem op50_21 : rn_op 50 21 = some (.iconst 1, 1, 0, 0, 0) := by decide +kernel
theorem op50_22 : rn_op 50 22 = some (.goto 4, 3, 0, 0, 0) := by decide +kernel
theorem op50_25 : rn_op 50 25 = some (.iconst 0, 1, 0, 0, 0) := by decide +kernel
theorem op50_26 : rn_op 50 26 = some (.ireturn, 1, 0, 0, 0) := by decide +kernel
def ga_has (n : Nat) (q0 : Nat) (a1 : Int32) (m : rn_Mem) : Option (Int32 × rn_Mem) :=
  if a1 < 0 then
    some (0, m)
  else
    if a1 < 16 then
      if (((m.1 q0 3) >>> (a1 &&& 31)) &&& 1) = 0 then
        some (0, m)
      else
        some (1, m)
    else
      some (0, m)
set_option maxHeartbeats 4000000 in
set_option maxRecDepth 20000 in
theorem ga_has_ok (xs : List Int32) {d : Nat} (hd : 0 ≤ d) {n : Nat} {q0 : Nat} {a1 : Int32} {m mO : rn_Mem} {rO : Int32} (hq0 : sA_Game q0) (h : ga_has n q0 a1 m = some (rO, mO)) : rn_R xs d 50 0 (rn_ent 2 [.ref q0, .int a1]) [] (rn_SH, m) (some (.int rO)) (rn_SH, mO) := by
  unfold ga_has at h
  show rn_R xs d 50 0 [some (.ref q0), some (.int a1)] [] (rn_SH, m) (some (.int rO)) (rn_SH, mO)
  refine rx_p (L2 := [some (.ref q0), some (.int a1)]) (S2 := [.int a1]) (pc2 := 1) op50_0 rfl rfl ?_
  refine ry_if_lt (tgt := 25) (pc2 := 4) op50_1 (by decide) (by decide) rfl (fun b1 => ?_) (fun b1 => ?_)
  · have h := (if_pos b1).symm.trans h
    refine rx_ic (v := 0) (pc2 := 26) op50_25 (by decide) rfl ?_
    obtain ⟨rfl, rfl⟩ := rq_ret h
    exact ry_rz (x := 0) op50_26 ms_50 rfl (by decide)
  · have h := (if_neg b1).symm.trans h
    refine rx_p (L2 := [some (.ref q0), some (.int a1)]) (S2 := [.int a1]) (pc2 := 5) op50_4 rfl rfl ?_
    refine rx_bp (v := 16) (pc2 := 7) op50_5 (by decide) rfl ?_
    refine ry_ic_ge (tgt := 25) (pc2 := 10) op50_7 (by decide) (by decide) rfl (fun b2 => ?_) (fun b2 => ?_)
    · have h := (if_pos b2).symm.trans h
      refine rx_p (L2 := [some (.ref q0), some (.int a1)]) (S2 := [.ref q0]) (pc2 := 11) op50_10 rfl rfl ?_
      refine rx_gf (v := .int (m.1 q0 3)) (pc2 := 14) op50_11 hq0 rfl rfl rfl ?_
      refine rx_p (L2 := [some (.ref q0), some (.int a1)]) (S2 := [.int a1, .int (m.1 q0 3)]) (pc2 := 15) op50_14 rfl rfl ?_
      refine rx_p (L2 := [some (.ref q0), some (.int a1)]) (S2 := [.int ((m.1 q0 3) >>> (a1 &&& 31))]) (pc2 := 16) op50_15 rfl rfl ?_
      refine rx_ic (v := 1) (pc2 := 17) op50_16 (by decide) rfl ?_
      refine rx_p (L2 := [some (.ref q0), some (.int a1)]) (S2 := [.int (((m.1 q0 3) >>> (a1 &&& 31)) &&& 1)]) (pc2 := 18) op50_17 rfl rfl ?_
      refine ry_if_eq (tgt := 25) (pc2 := 21) op50_18 (by decide) (by decide) rfl (fun b3 => ?_) (fun b3 => ?_)
      · have h := (if_pos b3).symm.trans h
        refine rx_ic (v := 0) (pc2 := 26) op50_25 (by decide) rfl ?_
        obtain ⟨rfl, rfl⟩ := rq_ret h
        exact ry_rz (x := 0) op50_26 ms_50 rfl (by decide)
      · have h := (if_neg b3).symm.trans h
        refine rx_ic (v := 1) (pc2 := 22) op50_21 (by decide) rfl ?_
        refine ry_go (tgt := 26) op50_22 (by decide) (by decide) ?_
        obtain ⟨rfl, rfl⟩ := rq_ret h
        exact ry_rz (x := 1) op50_26 ms_50 rfl (by decide)
    · have h := (if_neg b2).symm.trans h
      refine rx_ic (v := 0) (pc2 := 26) op50_25 (by decide) rfl ?_
      obtain ⟨rfl, rfl⟩ := rq_ret h
      exact ry_rz (x := 0) op50_26 ms_50 rfl (by decide)
/-! ga_join -/
theorem op51_0 : rn_op 51 0 = some (.iload_n 1, 1, 0, 0, 0) := by decide +kernel
theorem op51_1 : rn_op 51 1 = some (.ifCond .ge 16, 3, 0, 0, 0) := by decide +kernel
theorem op51_4 : rn_op 51 4 = some (.iload_n 2, 1, 0, 0, 0) := by decide +kernel
theorem op51_5 : rn_op 51 5 = some (.bipush 6, 2, 0, 0, 0) := by decide +kernel
theorem op51_7 : rn_op 51 7 = some (.ishl, 1, 0, 0, 0) := by decide +kernel
theorem op51_8 : rn_op 51 8 = some (.iload_n 3, 1, 0, 0, 0) := by decide +kernel
theorem op51_9 : rn_op 51 9 = some (.iconst 2, 1, 0, 0, 0) := by decide +kernel
theorem op51_10 : rn_op 51 10 = some (.ishl, 1, 0, 0, 0) := by decide +kernel
theorem op51_11 : rn_op 51 11 = some (.ior, 1, 0, 0, 0) := by decide +kernel
theorem op51_12 : rn_op 51 12 = some (.iload_n 3, 1, 0, 0, 0) := by decide +kernel
theorem op51_13 : rn_op 51 13 = some (.iconst 2, 1, 0, 0, 0) := by decide +kernel
theorem op51_14 : rn_op 51 14 = some (.ishr, 1, 0, 0, 0) := by decide +kernel
theorem op51_15 : rn_op 51 15 = some (.ior, 1, 0, 0, 0) := by decide +kernel
theorem op51_16 : rn_op 51 16 = some (.ireturn, 1, 0, 0, 0) := by decide +kernel
theorem op51_17 : rn_op 51 17 = some (.iload_n 1, 1, 0, 0, 0) := by decide +kernel
theorem op51_18 : rn_op 51 18 = some (.iconst 2, 1, 0, 0, 0) := by decide +kernel
theorem op51_19 : rn_op 51 19 = some (.ishr, 1, 0, 0, 0) := by decide +kernel
theorem op51_20 : rn_op 51 20 = some (.bipush 15, 2, 0, 0, 0) := by decide +kernel
theorem op51_22 : rn_op 51 22 = some (.iand, 1, 0, 0, 0) := by decide +kernel
theorem op51_23 : rn_op 51 23 = some (.istore 4, 2, 0, 0, 0) := by decide +kernel
theorem op51_25 : rn_op 51 25 = some (.iload_n 3, 1, 0, 0, 0) := by decide +kernel
theorem op51_26 : rn_op 51 26 = some (.iconst 2, 1, 0, 0, 0) := by decide +kernel
theorem op51_27 : rn_op 51 27 = some (.ishr, 1, 0, 0, 0) := by decide +kernel
theorem op51_28 : rn_op 51 28 = some (.iload 4, 2, 0, 0, 0) := by decide +kernel
theorem op51_30 : rn_op 51 30 = some (.iconst 2, 1, 0, 0, 0) := by decide +kernel
theorem op51_31 : rn_op 51 31 = some (.ishr, 1, 0, 0, 0) := by decide +kernel
theorem op51_32 : rn_op 51 32 = some (.if_icmp .ne 17, 3, 0, 0, 0) := by decide +kernel
theorem op51_35 : rn_op 51 35 = some (.iload_n 3, 1, 0, 0, 0) := by decide +kernel
theorem op51_36 : rn_op 51 36 = some (.iload 4, 2, 0, 0, 0) := by decide +kernel
theorem op51_38 : rn_op 51 38 = some (.if_icmp .le 7, 3, 0, 0, 0) := by decide +kernel
theorem op51_41 : rn_op 51 41 = some (.iconst 1, 1, 0, 0, 0) := by decide +kernel
theorem op51_42 : rn_op 51 42 = some (.goto 22, 3, 0, 0, 0) := by decide +kernel
theorem op51_45 : rn_op 51 45 = some (.iconst 0, 1, 0, 0, 0) := by decide +kernel
theorem op51_46 : rn_op 51 46 = some (.goto 18, 3, 0, 0, 0) := by decide +kernel
theorem op51_49 : rn_op 51 49 = some (.iload_n 3, 1, 0, 0, 0) := by decide +kernel
theorem op51_50 : rn_op 51 50 = some (.iconst 2, 1, 0, 0, 0) := by decide +kernel
theorem op51_51 : rn_op 51 51 = some (.ishr, 1, 0, 0, 0) := by decide +kernel
theorem op51_52 : rn_op 51 52 = some (.aload_n 0, 1, 0, 0, 0) := by decide +kernel
theorem op51_53 : rn_op 51 53 = some (.getfield 18, 3, 1, 4, 0) := by decide +kernel
theorem op51_56 : rn_op 51 56 = some (.if_icmp .ne 7, 3, 0, 0, 0) := by decide +kernel
theorem op51_59 : rn_op 51 59 = some (.iconst 1, 1, 0, 0, 0) := by decide +kernel
theorem op51_60 : rn_op 51 60 = some (.goto 4, 3, 0, 0, 0) := by decide +kernel
theorem op51_63 : rn_op 51 63 = some (.iconst 0, 1, 0, 0, 0) := by decide +kernel
theorem op51_64 : rn_op 51 64 = some (.istore 5, 2, 0, 0, 0) := by decide +kernel
theorem op51_66 : rn_op 51 66 = some (.iload 5, 2, 0, 0, 0) := by decide +kernel
theorem op51_68 : rn_op 51 68 = some (.ifCond .eq 18, 3, 0, 0, 0) := by decide +kernel
theorem op51_71 : rn_op 51 71 = some (.iload_n 2, 1, 0, 0, 0) := by decide +kernel
theorem op51_72 : rn_op 51 72 = some (.bipush 6, 2, 0, 0, 0) := by decide +kernel
theorem op51_74 : rn_op 51 74 = some (.ishl, 1, 0, 0, 0) := by decide +kernel
theorem op51_75 : rn_op 51 75 = some (.iload_n 3, 1, 0, 0, 0) := by decide +kernel
theorem op51_76 : rn_op 51 76 = some (.iconst 2, 1, 0, 0, 0) := by decide +kernel
theorem op51_77 : rn_op 51 77 = some (.ishl, 1, 0, 0, 0) := by decide +kernel
theorem op51_78 : rn_op 51 78 = some (.ior, 1, 0, 0, 0) := by decide +kernel
theorem op51_79 : rn_op 51 79 = some (.iload_n 1, 1, 0, 0, 0) := by decide +kernel
theorem op51_80 : rn_op 51 80 = some (.iconst 3, 1, 0, 0, 0) := by decide +kernel
theorem op51_81 : rn_op 51 81 = some (.iand, 1, 0, 0, 0) := by decide +kernel
theorem op51_82 : rn_op 51 82 = some (.ior, 1, 0, 0, 0) := by decide +kernel
theorem op51_83 : rn_op 51 83 = some (.goto 4, 3, 0, 0, 0) := by decide +kernel
theorem op51_86 : rn_op 51 86 = some (.iload_n 1, 1, 0, 0, 0) := by decide +kernel
theorem op51_87 : rn_op 51 87 = some (.ireturn, 1, 0, 0, 0) := by decide +kernel
def ga_join (n : Nat) (q0 : Nat) (a1 : Int32) (a2 : Int32) (a3 : Int32) (m : rn_Mem) : Option (Int32 × rn_Mem) :=
  if a1 < 0 then
    some (((a2 <<< (6 &&& 31)) ||| (a3 <<< (2 &&& 31))) ||| (a3 >>> (2 &&& 31)), m)
  else
    (some ((a1 >>> (2 &&& 31)) &&& 15)).bind fun (x2 : Int32) =>
    (show Option (Int32) from
      if (a3 >>> (2 &&& 31)) = (x2 >>> (2 &&& 31)) then
        if x2 < a3 then
          some (1)
        else
          some (0)
      else
        if (a3 >>> (2 &&& 31)) = (m.1 q0 4) then
          some (1)
        else
          some (0)).bind fun x9 =>
    if x9 = 0 then
      some (a1, m)
    else
      some (((a2 <<< (6 &&& 31)) ||| (a3 <<< (2 &&& 31))) ||| (a1 &&& 3), m)
set_option maxHeartbeats 4000000 in
set_option maxRecDepth 20000 in
theorem ga_join_ok (xs : List Int32) {d : Nat} (hd : 0 ≤ d) {n : Nat} {q0 : Nat} {a1 : Int32} {a2 : Int32} {a3 : Int32} {m mO : rn_Mem} {rO : Int32} (hq0 : sA_Game q0) (h : ga_join n q0 a1 a2 a3 m = some (rO, mO)) : rn_R xs d 51 0 (rn_ent 6 [.ref q0, .int a1, .int a2, .int a3]) [] (rn_SH, m) (some (.int rO)) (rn_SH, mO) := by
  unfold ga_join at h
  show rn_R xs d 51 0 [some (.ref q0), some (.int a1), some (.int a2), some (.int a3), none, none] [] (rn_SH, m) (some (.int rO)) (rn_SH, mO)
  refine rx_p (L2 := [some (.ref q0), some (.int a1), some (.int a2), some (.int a3), none, none]) (S2 := [.int a1]) (pc2 := 1) op51_0 rfl rfl ?_
  refine ry_if_ge (tgt := 17) (pc2 := 4) op51_1 (by decide) (by decide) rfl (fun b1 => ?_) (fun b1 => ?_)
  · have h := (if_pos b1).symm.trans h
    refine rx_p (L2 := [some (.ref q0), some (.int a1), some (.int a2), some (.int a3), none, none]) (S2 := [.int a2]) (pc2 := 5) op51_4 rfl rfl ?_
    refine rx_bp (v := 6) (pc2 := 7) op51_5 (by decide) rfl ?_
    refine rx_p (L2 := [some (.ref q0), some (.int a1), some (.int a2), some (.int a3), none, none]) (S2 := [.int (a2 <<< (6 &&& 31))]) (pc2 := 8) op51_7 rfl rfl ?_
    refine rx_p (L2 := [some (.ref q0), some (.int a1), some (.int a2), some (.int a3), none, none]) (S2 := [.int a3, .int (a2 <<< (6 &&& 31))]) (pc2 := 9) op51_8 rfl rfl ?_
    refine rx_ic (v := 2) (pc2 := 10) op51_9 (by decide) rfl ?_
    refine rx_p (L2 := [some (.ref q0), some (.int a1), some (.int a2), some (.int a3), none, none]) (S2 := [.int (a3 <<< (2 &&& 31)), .int (a2 <<< (6 &&& 31))]) (pc2 := 11) op51_10 rfl rfl ?_
    refine rx_p (L2 := [some (.ref q0), some (.int a1), some (.int a2), some (.int a3), none, none]) (S2 := [.int ((a2 <<< (6 &&& 31)) ||| (a3 <<< (2 &&& 31)))]) (pc2 := 12) op51_11 rfl rfl ?_
    refine rx_p (L2 := [some (.ref q0), some (.int a1), some (.int a2), some (.int a3), none, none]) (S2 := [.int a3, .int ((a2 <<< (6 &&& 31)) ||| (a3 <<< (2 &&& 31)))]) (pc2 := 13) op51_12 rfl rfl ?_
    refine rx_ic (v := 2) (pc2 := 14) op51_13 (by decide) rfl ?_
    refine rx_p (L2 := [some (.ref q0), some (.int a1), some (.int a2), some (.int a3), none, none]) (S2 := [.int (a3 >>> (2 &&& 31)), .int ((a2 <<< (6 &&& 31)) ||| (a3 <<< (2 &&& 31)))]) (pc2 := 15) op51_14 rfl rfl ?_
    refine rx_p (L2 := [some (.ref q0), some (.int a1), some (.int a2), some (.int a3), none, none]) (S2 := [.int (((a2 <<< (6 &&& 31)) ||| (a3 <<< (2 &&& 31))) ||| (a3 >>> (2 &&& 31)))]) (pc2 := 16) op51_15 rfl rfl ?_
    obtain ⟨rfl, rfl⟩ := rq_ret h
    exact ry_ri op51_16 ms_51 rfl
  · have h := (if_neg b1).symm.trans h
    refine rx_p (L2 := [some (.ref q0), some (.int a1), some (.int a2), some (.int a3), none, none]) (S2 := [.int a1]) (pc2 := 18) op51_17 rfl rfl ?_
    refine rx_ic (v := 2) (pc2 := 19) op51_18 (by decide) rfl ?_
    refine rx_p (L2 := [some (.ref q0), some (.int a1), some (.int a2), some (.int a3), none, none]) (S2 := [.int (a1 >>> (2 &&& 31))]) (pc2 := 20) op51_19 rfl rfl ?_
    refine rx_bp (v := 15) (pc2 := 22) op51_20 (by decide) rfl ?_
    refine rx_p (L2 := [some (.ref q0), some (.int a1), some (.int a2), some (.int a3), none, none]) (S2 := [.int ((a1 >>> (2 &&& 31)) &&& 15)]) (pc2 := 23) op51_22 rfl rfl ?_
    obtain ⟨x2, ex2, h⟩ := rq_bv h
    refine rx_s (v := x2) (L2 := [some (.ref q0), some (.int a1), some (.int a2), some (.int a3), some (.int x2), none]) (pc2 := 25) op51_23 ex2 rfl rfl ?_
    refine rx_p (L2 := [some (.ref q0), some (.int a1), some (.int a2), some (.int a3), some (.int x2), none]) (S2 := [.int a3]) (pc2 := 26) op51_25 rfl rfl ?_
    refine rx_ic (v := 2) (pc2 := 27) op51_26 (by decide) rfl ?_
    refine rx_p (L2 := [some (.ref q0), some (.int a1), some (.int a2), some (.int a3), some (.int x2), none]) (S2 := [.int (a3 >>> (2 &&& 31))]) (pc2 := 28) op51_27 rfl rfl ?_
    refine rx_p (L2 := [some (.ref q0), some (.int a1), some (.int a2), some (.int a3), some (.int x2), none]) (S2 := [.int x2, .int (a3 >>> (2 &&& 31))]) (pc2 := 30) op51_28 rfl rfl ?_
    refine rx_ic (v := 2) (pc2 := 31) op51_30 (by decide) rfl ?_
    refine rx_p (L2 := [some (.ref q0), some (.int a1), some (.int a2), some (.int a3), some (.int x2), none]) (S2 := [.int (x2 >>> (2 &&& 31)), .int (a3 >>> (2 &&& 31))]) (pc2 := 32) op51_31 rfl rfl ?_
    obtain ⟨x9, gc12, h⟩ := rq_bind h
    try dsimp only at h
    have c12 : ∀ (o6 o7 o8 : Option Value), rn_R xs d 51 64 [o6, some (.int a1), some (.int a2), some (.int a3), o7, o8] [.int x9] (rn_SH, m) (some (.int rO)) (rn_SH, mO) := by
      intro o6 o7 o8
      refine rx_sd (v := x9) (j := 4) (pc2 := 66) op51_64 rfl rfl (Nat.le_of_ble_eq_true rfl) rfl (fun o10 => ?_)
      show rn_R _ _ _ _ [o6, some (.int a1), some (.int a2), some (.int a3), o10, some (.int x9)] _ _ _ _
      refine rx_p (L2 := [o6, some (.int a1), some (.int a2), some (.int a3), o10, some (.int x9)]) (S2 := [.int x9]) (pc2 := 68) op51_66 rfl rfl ?_
      refine ry_if_eq (tgt := 86) (pc2 := 71) op51_68 (by decide) (by decide) rfl (fun b11 => ?_) (fun b11 => ?_)
      · have h := (if_pos b11).symm.trans h
        refine rx_p (L2 := [o6, some (.int a1), some (.int a2), some (.int a3), o10, some (.int x9)]) (S2 := [.int a1]) (pc2 := 87) op51_86 rfl rfl ?_
        obtain ⟨rfl, rfl⟩ := rq_ret h
        exact ry_ri op51_87 ms_51 rfl
      · have h := (if_neg b11).symm.trans h
        refine rx_p (L2 := [o6, some (.int a1), some (.int a2), some (.int a3), o10, some (.int x9)]) (S2 := [.int a2]) (pc2 := 72) op51_71 rfl rfl ?_
        refine rx_bp (v := 6) (pc2 := 74) op51_72 (by decide) rfl ?_
        refine rx_p (L2 := [o6, some (.int a1), some (.int a2), some (.int a3), o10, some (.int x9)]) (S2 := [.int (a2 <<< (6 &&& 31))]) (pc2 := 75) op51_74 rfl rfl ?_
        refine rx_p (L2 := [o6, some (.int a1), some (.int a2), some (.int a3), o10, some (.int x9)]) (S2 := [.int a3, .int (a2 <<< (6 &&& 31))]) (pc2 := 76) op51_75 rfl rfl ?_
        refine rx_ic (v := 2) (pc2 := 77) op51_76 (by decide) rfl ?_
        refine rx_p (L2 := [o6, some (.int a1), some (.int a2), some (.int a3), o10, some (.int x9)]) (S2 := [.int (a3 <<< (2 &&& 31)), .int (a2 <<< (6 &&& 31))]) (pc2 := 78) op51_77 rfl rfl ?_
        refine rx_p (L2 := [o6, some (.int a1), some (.int a2), some (.int a3), o10, some (.int x9)]) (S2 := [.int ((a2 <<< (6 &&& 31)) ||| (a3 <<< (2 &&& 31)))]) (pc2 := 79) op51_78 rfl rfl ?_
        refine rx_p (L2 := [o6, some (.int a1), some (.int a2), some (.int a3), o10, some (.int x9)]) (S2 := [.int a1, .int ((a2 <<< (6 &&& 31)) ||| (a3 <<< (2 &&& 31)))]) (pc2 := 80) op51_79 rfl rfl ?_
        refine rx_ic (v := 3) (pc2 := 81) op51_80 (by decide) rfl ?_
        refine rx_p (L2 := [o6, some (.int a1), some (.int a2), some (.int a3), o10, some (.int x9)]) (S2 := [.int (a1 &&& 3), .int ((a2 <<< (6 &&& 31)) ||| (a3 <<< (2 &&& 31)))]) (pc2 := 82) op51_81 rfl rfl ?_
        refine rx_p (L2 := [o6, some (.int a1), some (.int a2), some (.int a3), o10, some (.int x9)]) (S2 := [.int (((a2 <<< (6 &&& 31)) ||| (a3 <<< (2 &&& 31))) ||| (a1 &&& 3))]) (pc2 := 83) op51_82 rfl rfl ?_
        refine ry_go (tgt := 87) op51_83 (by decide) (by decide) ?_
        obtain ⟨rfl, rfl⟩ := rq_ret h
        exact ry_ri op51_87 ms_51 rfl
    refine ry_ic_ne (tgt := 49) (pc2 := 35) op51_32 (by decide) (by decide) rfl (fun b3 => ?_) (fun b3 => ?_)
    · have gc12 := (if_pos b3).symm.trans gc12
      refine rx_p (L2 := [some (.ref q0), some (.int a1), some (.int a2), some (.int a3), some (.int x2), none]) (S2 := [.int a3]) (pc2 := 36) op51_35 rfl rfl ?_
      refine rx_p (L2 := [some (.ref q0), some (.int a1), some (.int a2), some (.int a3), some (.int x2), none]) (S2 := [.int x2, .int a3]) (pc2 := 38) op51_36 rfl rfl ?_
      refine ry_ic_le (tgt := 45) (pc2 := 41) op51_38 (by decide) (by decide) rfl (fun b4 => ?_) (fun b4 => ?_)
      · have gc12 := (if_pos b4).symm.trans gc12
        refine rx_ic (v := 1) (pc2 := 42) op51_41 (by decide) rfl ?_
        refine ry_go (tgt := 64) op51_42 (by decide) (by decide) ?_
        cases gc12
        exact c12 _ _ _
      · have gc12 := (if_neg b4).symm.trans gc12
        refine rx_ic (v := 0) (pc2 := 46) op51_45 (by decide) rfl ?_
        refine ry_go (tgt := 64) op51_46 (by decide) (by decide) ?_
        cases gc12
        exact c12 _ _ _
    · have gc12 := (if_neg b3).symm.trans gc12
      refine rx_p (L2 := [some (.ref q0), some (.int a1), some (.int a2), some (.int a3), some (.int x2), none]) (S2 := [.int a3]) (pc2 := 50) op51_49 rfl rfl ?_
      refine rx_ic (v := 2) (pc2 := 51) op51_50 (by decide) rfl ?_
      refine rx_p (L2 := [some (.ref q0), some (.int a1), some (.int a2), some (.int a3), some (.int x2), none]) (S2 := [.int (a3 >>> (2 &&& 31))]) (pc2 := 52) op51_51 rfl rfl ?_
      refine rx_p (L2 := [some (.ref q0), some (.int a1), some (.int a2), some (.int a3), some (.int x2), none]) (S2 := [.ref q0, .int (a3 >>> (2 &&& 31))]) (pc2 := 53) op51_52 rfl rfl ?_
      refine rx_gf (v := .int (m.1 q0 4)) (pc2 := 56) op51_53 hq0 rfl rfl rfl ?_
      refine ry_ic_ne (tgt := 63) (pc2 := 59) op51_56 (by decide) (by decide) rfl (fun b5 => ?_) (fun b5 => ?_)
      · have gc12 := (if_pos b5).symm.trans gc12
        refine rx_ic (v := 1) (pc2 := 60) op51_59 (by decide) rfl ?_
        refine ry_go (tgt := 64) op51_60 (by decide) (by decide) ?_
        cases gc12
        exact c12 _ _ _
      · have gc12 := (if_neg b5).symm.trans gc12
        refine rx_ic (v := 0) (pc2 := 64) op51_63 (by decide) rfl ?_
        cases gc12
        exact c12 _ _ _
/-! ga_next -/
theorem op52_0 : rn_op 52 0 = some (.iload_n 1, 1, 0, 0, 0) := by decide +kernel
theorem op52_1 : rn_op 52 1 = some (.iconst 1, 1, 0, 0, 0) := by decide +kernel
theorem op52_2 : rn_op 52 2 = some (.iadd, 1, 0, 0, 0) := by decide +kernel
theorem op52_3 : rn_op 52 3 = some (.aload_n 0, 1, 0, 0, 0) := by decide +kernel
theorem op52_4 : rn_op 52 4 = some (.getfield 9, 3, 1, 1, 0) := by decide +kernel
theorem op52_7 : rn_op 52 7 = some (.if_icmp .ge 9, 3, 0, 0, 0) := by decide +kernel
theorem op52_10 : rn_op 52 10 = some (.iload_n 1, 1, 0, 0, 0) := by decide +kernel
theorem op52_11 : rn_op 52 11 = some (.iconst 1, 1, 0, 0, 0) := by decide +kernel
theorem op52_12 : rn_op 52 12 = some (.iadd, 1, 0, 0, 0) := by decide +kernel
theorem op52_13 : rn_op 52 13 = some (.goto 4, 3, 0, 0, 0) := by decide +kernel
theorem op52_16 : rn_op 52 16 = some (.iconst 0, 1, 0, 0, 0) := by decide +kernel
theorem op52_17 : rn_op 52 17 = some (.ireturn, 1, 0, 0, 0) := by decide +kernel
def ga_next (n : Nat) (q0 : Nat) (a1 : Int32) (m : rn_Mem) : Option (Int32 × rn_Mem) :=
  if (a1 + 1) < (m.1 q0 1) then
    some (a1 + 1, m)
  else
    some (0, m)
set_option maxHeartbeats 4000000 in
set_option maxRecDepth 20000 in
theorem ga_next_ok (xs : List Int32) {d : Nat} (hd : 0 ≤ d) {n : Nat} {q0 : Nat} {a1 : Int32} {m mO : rn_Mem} {rO : Int32} (hq0 : sA_Game q0) (h : ga_next n q0 a1 m = some (rO, mO)) : rn_R xs d 52 0 (rn_ent 2 [.ref q0, .int a1]) [] (rn_SH, m) (some (.int rO)) (rn_SH, mO) := by
  unfold ga_next at h
  show rn_R xs d 52 0 [some (.ref q0), some (.int a1)] [] (rn_SH, m) (some (.int rO)) (rn_SH, mO)
  refine rx_p (L2 := [some (.ref q0), some (.int a1)]) (S2 := [.int a1]) (pc2 := 1) op52_0 rfl rfl ?_
  refine rx_ic (v := 1) (pc2 := 2) op52_1 (by decide) rfl ?_
  refine rx_p (L2 := [some (.ref q0), some (.int a1)]) (S2 := [.int (a1 + 1)]) (pc2 := 3) op52_2 rfl rfl ?_
  refine rx_p (L2 := [some (.ref q0), some (.int a1)]) (S2 := [.ref q0, .int (a1 + 1)]) (pc2 := 4) op52_3 rfl rfl ?_
  refine rx_gf (v := .int (m.1 q0 1)) (pc2 := 7) op52_4 hq0 rfl rfl rfl ?_
  refine ry_ic_ge (tgt := 16) (pc2 := 10) op52_7 (by decide) (by decide) rfl (fun b1 => ?_) (fun b1 => ?_)
  · have h := (if_pos b1).symm.trans h
    refine rx_p (L2 := [some (.ref q0), some (.int a1)]) (S2 := [.int a1]) (pc2 := 11) op52_10 rfl rfl ?_
    refine rx_ic (v := 1) (pc2 := 12) op52_11 (by decide) rfl ?_
    refine rx_p (L2 := [some (.ref q0), some (.int a1)]) (S2 := [.int (a1 + 1)]) (pc2 := 13) op52_12 rfl rfl ?_
    refine ry_go (tgt := 17) op52_13 (by decide) (by decide) ?_
    obtain ⟨rfl, rfl⟩ := rq_ret h
    exact ry_ri op52_17 ms_52 rfl
  · have h := (if_neg b1).symm.trans h
    refine rx_ic (v := 0) (pc2 := 17) op52_16 (by decide) rfl ?_
    obtain ⟨rfl, rfl⟩ := rq_ret h
    exact ry_ri op52_17 ms_52 rfl
/-! ga_winnerOf -/
theorem op53_0 : rn_op 53 0 = some (.iload_n 0, 1, 0, 0, 0) := by decide +kernel
theorem op53_1 : rn_op 53 1 = some (.bipush 6, 2, 0, 0, 0) := by decide +kernel
theorem op53_3 : rn_op 53 3 = some (.ishr, 1, 0, 0, 0) := by decide +kernel
theorem op53_4 : rn_op 53 4 = some (.iconst 3, 1, 0, 0, 0) := by decide +kernel
theorem op53_5 : rn_op 53 5 = some (.iand, 1, 0, 0, 0) := by decide +kernel
theorem op53_6 : rn_op 53 6 = some (.ireturn, 1, 0, 0, 0) := by decide +kernel
def ga_winnerOf (n : Nat) (a0 : Int32) (m : rn_Mem) : Option (Int32 × rn_Mem) :=
  some ((a0 >>> (6 &&& 31)) &&& 3, m)
set_option maxHeartbeats 4000000 in
set_option maxRecDepth 20000 in
theorem ga_winnerOf_ok (xs : List Int32) {d : Nat} (hd : 0 ≤ d) {n : Nat} {a0 : Int32} {m mO : rn_Mem} {rO : Int32} (h : ga_winnerOf n a0 m = some (rO, mO)) : rn_R xs d 53 0 (rn_ent 1 [.int a0]) [] (rn_SH, m) (some (.int rO)) (rn_SH, mO) := by
  unfold ga_winnerOf at h
  show rn_R xs d 53 0 [some (.int a0)] [] (rn_SH, m) (some (.int rO)) (rn_SH, mO)
  refine rx_p (L2 := [some (.int a0)]) (S2 := [.int a0]) (pc2 := 1) op53_0 rfl rfl ?_
  refine rx_bp (v := 6) (pc2 := 3) op53_1 (by decide) rfl ?_
  refine rx_p (L2 := [some (.int a0)]) (S2 := [.int (a0 >>> (6 &&& 31))]) (pc2 := 4) op53_3 rfl rfl ?_
  refine rx_ic (v := 3) (pc2 := 5) op53_4 (by decide) rfl ?_
  refine rx_p (L2 := [some (.int a0)]) (S2 := [.int ((a0 >>> (6 &&& 31)) &&& 3)]) (pc2 := 6) op53_5 rfl rfl ?_
  obtain ⟨rfl, rfl⟩ := rq_ret h
  exact ry_ri op53_6 ms_53 rfl
/-! lt_wins -/
theorem op49_0 : rn_op 49 0 = some (.iload_n 1, 1, 0, 0, 0) := by decide +kernel
theorem op49_1 : rn_op 49 1 = some (.ifCond .lt 16, 3, 0, 0, 0) := by decide +kernel
theorem op49_4 : rn_op 49 4 = some (.iload_n 1, 1, 0, 0, 0) := by decide +kernel
theorem op49_5 : rn_op 49 5 = some (.ldc 144, 2, 65535, 0, 0) := by decide +kernel
theorem op49_7 : rn_op 49 7 = some (.if_icmp .gt 10, 3, 0, 0, 0) := by decide +kernel
theorem op49_10 : rn_op 49 10 = some (.iload_n 2, 1, 0, 0, 0) := by decide +kernel
theorem op49_11 : rn_op 49 11 = some (.invokestatic 132, 3, 39, 1, 0) := by decide +kernel
theorem op49_14 : rn_op 49 14 = some (.ifCond .eq 5, 3, 0, 0, 0) := by decide +kernel
theorem op49_17 : rn_op 49 17 = some (.iconst (-1), 1, 0, 0, 0) := by decide +kernel
theorem op49_18 : rn_op 49 18 = some (.ireturn, 1, 0, 0, 0) := by decide +kernel
theorem op49_19 : rn_op 49 19 = some (.aload_n 0, 1, 0, 0, 0) := by decide +kernel
theorem op49_20 : rn_op 49 20 = some (.getfield 19, 3, 10, 1, 3) := by decide +kernel
theorem op49_23 : rn_op 49 23 = some (.getfield 62, 3, 6, 0, 3) := by decide +kernel
theorem op49_26 : rn_op 49 26 = some (.getfield 89, 3, 1, 0, 2) := by decide +kernel
theorem op49_29 : rn_op 49 29 = some (.ifCond .ne 6, 3, 0, 0, 0) := by decide +kernel
theorem op49_32 : rn_op 49 32 = some (.bipush (-2), 2, 0, 0, 0) := by decide +kernel
theorem op49_34 : rn_op 49 34 = some (.ireturn, 1, 0, 0, 0) := by decide +kernel
theorem op49_35 : rn_op 49 35 = some (.iload_n 2, 1, 0, 0, 0) := by decide +kernel
theorem op49_36 : rn_op 49 36 = some (.aload_n 0, 1, 0, 0, 0) := by decide +kernel
theorem op49_37 : rn_op 49 37 = some (.getfield 19, 3, 10, 1, 3) := by decide +kernel
theorem op49_40 : rn_op 49 40 = some (.getfield 62, 3, 6, 0, 3) := by decide +kernel
theorem op49_43 : rn_op 49 43 = some (.getfield 118, 3, 1, 1, 0) := by decide +kernel
theorem op49_46 : rn_op 49 46 = some (.if_icmp .lt 5, 3, 0, 0, 0) := by decide +kernel
theorem op49_49 : rn_op 49 49 = some (.iconst (-1), 1, 0, 0, 0) := by decide +kernel
theorem op49_50 : rn_op 49 50 = some (.ireturn, 1, 0, 0, 0) := by decide +kernel
theorem op49_51 : rn_op 49 51 = some (.iconst 0, 1, 0, 0, 0) := by decide +kernel
theorem op49_52 : rn_op 49 52 = some (.istore_n 3, 1, 0, 0, 0) := by decide +kernel
theorem op49_53 : rn_op 49 53 = some (.iload_n 2, 1, 0, 0, 0) := by decide +kernel
theorem op49_54 : rn_op 49 54 = some (.istore 4, 2, 0, 0, 0) := by decide +kernel
theorem op49_56 : rn_op 49 56 = some (.iconst (-1), 1, 0, 0, 0) := by decide +kernel
theorem op49_57 : rn_op 49 57 = some (.istore 5, 2, 0, 0, 0) := by decide +kernel
theorem op49_59 : rn_op 49 59 = some (.iconst 0, 1, 0, 0, 0) := by decide +kernel
theorem op49_60 : rn_op 49 60 = some (.istore 6, 2, 0, 0, 0) := by decide +kernel
theorem op49_62 : rn_op 49 62 = some (.iload 6, 2, 0, 0, 0) := by decide +kernel
theorem op49_64 : rn_op 49 64 = some (.aload_n 0, 1, 0, 0, 0) := by decide +kernel
theorem op49_65 : rn_op 49 65 = some (.getfield 19, 3, 10, 1, 3) := by decide +kernel
theorem op49_68 : rn_op 49 68 = some (.getfield 62, 3, 6, 0, 3) := by decide +kernel
theorem op49_71 : rn_op 49 71 = some (.getfield 118, 3, 1, 1, 0) := by decide +kernel
theorem op49_74 : rn_op 49 74 = some (.if_icmp .ge 85, 3, 0, 0, 0) := by decide +kernel
theorem op49_77 : rn_op 49 77 = some (.iload_n 1, 1, 0, 0, 0) := by decide +kernel
theorem op49_78 : rn_op 49 78 = some (.iconst 4, 1, 0, 0, 0) := by decide +kernel
theorem op49_79 : rn_op 49 79 = some (.iload 6, 2, 0, 0, 0) := by decide +kernel
theorem op49_81 : rn_op 49 81 = some (.imul, 1, 0, 0, 0) := by decide +kernel
theorem op49_82 : rn_op 49 82 = some (.ishr, 1, 0, 0, 0) := by decide +kernel
theorem op49_83 : rn_op 49 83 = some (.bipush 15, 2, 0, 0, 0) := by decide +kernel
theorem op49_85 : rn_op 49 85 = some (.iand, 1, 0, 0, 0) := by decide +kernel
theorem op49_86 : rn_op 49 86 = some (.istore 7, 2, 0, 0, 0) := by decide +kernel
theorem op49_88 : rn_op 49 88 = some (.aload_n 0, 1, 0, 0, 0) := by decide +kernel
theorem op49_89 : rn_op 49 89 = some (.getfield 19, 3, 10, 1, 3) := by decide +kernel
theorem op49_92 : rn_op 49 92 = some (.getfield 62, 3, 6, 0, 3) := by decide +kernel
theorem op49_95 : rn_op 49 95 = some (.iload 7, 2, 0, 0, 0) := by decide +kernel
theorem op49_97 : rn_op 49 97 = some (.invokevirtual 145, 3, 50, 2, 1) := by decide +kernel
theorem op49_100 : rn_op 49 100 = some (.ifCond .eq 12, 3, 0, 0, 0) := by decide +kernel
theorem op49_103 : rn_op 49 103 = some (.iload_n 3, 1, 0, 0, 0) := by decide +kernel
theorem op49_104 : rn_op 49 104 = some (.iload 7, 2, 0, 0, 0) := by decide +kernel
theorem op49_106 : rn_op 49 106 = some (.ishr, 1, 0, 0, 0) := by decide +kernel
theorem op49_107 : rn_op 49 107 = some (.iconst 1, 1, 0, 0, 0) := by decide +kernel
theorem op49_108 : rn_op 49 108 = some (.iand, 1, 0, 0, 0) := by decide +kernel
theorem op49_109 : rn_op 49 109 = some (.ifCond .eq 5, 3, 0, 0, 0) := by decide +kernel
theorem op49_112 : rn_op 49 112 = some (.iconst (-1), 1, 0, 0, 0) := by decide +kernel
theorem op49_113 : rn_op 49 113 = some (.ireturn, 1, 0, 0, 0) := by decide +kernel
theorem op49_114 : rn_op 49 114 = some (.iload_n 3, 1, 0, 0, 0) := by decide +kernel
theorem op49_115 : rn_op 49 115 = some (.iconst 1, 1, 0, 0, 0) := by decide +kernel
theorem op49_116 : rn_op 49 116 = some (.iload 7, 2, 0, 0, 0) := by decide +kernel
theorem op49_118 : rn_op 49 118 = some (.ishl, 1, 0, 0, 0) := by decide +kernel
theorem op49_119 : rn_op 49 119 = some (.ior, 1, 0, 0, 0) := by decide +kernel
theorem op49_120 : rn_op 49 120 = some (.istore_n 3, 1, 0, 0, 0) := by decide +kernel
theorem op49_121 : rn_op 49 121 = some (.aload_n 0, 1, 0, 0, 0) := by decide +kernel
theorem op49_122 : rn_op 49 122 = some (.getfield 19, 3, 10, 1, 3) := by decide +kernel
theorem op49_125 : rn_op 49 125 = some (.getfield 62, 3, 6, 0, 3) := by decide +kernel
theorem op49_128 : rn_op 49 128 = some (.iload 5, 2, 0, 0, 0) := by decide +kernel
theorem op49_130 : rn_op 49 130 = some (.iload 4, 2, 0, 0, 0) := by decide +kernel
theorem op49_132 : rn_op 49 132 = some (.iload 7, 2, 0, 0, 0) := by decide +kernel
theorem op49_134 : rn_op 49 134 = some (.invokevirtual 148, 3, 51, 4, 1) := by decide +kernel
theorem op49_137 : rn_op 49 137 = some (.istore 5, 2, 0, 0, 0) := by decide +kernel
theorem op49_139 : rn_op 49 139 = some (.aload_n 0, 1, 0, 0, 0) := by decide +kernel
theorem op49_140 : rn_op 49 140 = some (.getfield 19, 3, 10, 1, 3) := by decide +kernel
theorem op49_143 : rn_op 49 143 = some (.getfield 62, 3, 6, 0, 3) := by decide +kernel
theorem op49_146 : rn_op 49 146 = some (.iload 4, 2, 0, 0, 0) := by decide +kernel
theorem op49_148 : rn_op 49 148 = some (.invokevirtual 152, 3, 52, 2, 1) := by decide +kernel
theorem op49_151 : rn_op 49 151 = some (.istore 4, 2, 0, 0, 0) := by decide +kernel
theorem op49_153 : rn_op 49 153 = some (.iinc 6 1, 3, 0, 0, 0) := by decide +kernel
theorem op49_156 : rn_op 49 156 = some (.goto (-94), 3, 0, 0, 0) := by decide +kernel
theorem op49_159 : rn_op 49 159 = some (.iload 5, 2, 0, 0, 0) := by decide +kernel
theorem op49_161 : rn_op 49 161 = some (.invokestatic 155, 3, 53, 1, 0) := by decide +kernel
theorem op49_164 : rn_op 49 164 = some (.ireturn, 1, 0, 0, 0) := by decide +kernel
def lt_wins_l62 (a1 : Int32) : Nat → Int32 → Int32 → Int32 → Int32 → rn_Mem → Option ((Int32 × rn_Mem) ⊕ (Int32 × rn_Mem))
  | 0, _, _, _, _, _ => none
  | n + 1, a3, a4, a5, a6, m =>
    if a6 < (m.1 4 1) then
      (some ((a1 >>> (((4 : Int32) * a6) &&& 31)) &&& 15)).bind fun (x10 : Int32) =>
      (ga_has n 4 x10 m).bind fun (r12, m11) =>
      if r12 = 0 then
        some (.inl ((-1), m11))
      else
        if ((a3 >>> (x10 &&& 31)) &&& 1) = 0 then
          (some (a3 ||| ((1 : Int32) <<< (x10 &&& 31)))).bind fun (x17 : Int32) =>
          (ga_join n 4 a5 a4 x10 m11).bind fun (r19, m18) =>
          (ga_next n 4 a4 m18).bind fun (r22, m21) =>
          (some (a6 + 1)).bind fun (x24 : Int32) =>
          lt_wins_l62 a1 n x17 r22 r19 x24 m21
        else
          some (.inl ((-1), m11))
    else
      some (.inr (a5, m))
def lt_wins (n : Nat) (a1 : Int32) (a2 : Int32) (m : rn_Mem) : Option (Int32 × rn_Mem) :=
  if a1 < 0 then
    some ((-1), m)
  else
    if 65535 < a1 then
      some ((-1), m)
    else
      (lt_isNoChair n a2 m).bind fun (r4, m3) =>
      if r4 = 0 then
        if (m3.1 4 0) = 0 then
          some ((-2), m3)
        else
          if a2 < (m3.1 4 1) then
            (lt_wins_l62 a1 n 0 a2 (-1) 0 m3).bind fun q => match q with
            | .inl o => some o
            | .inr (x31, m25) =>
            (ga_winnerOf n x31 m25).bind fun (r35, m34) =>
            some (r35, m34)
          else
            some ((-1), m3)
      else
        some ((-1), m3)
set_option maxHeartbeats 4000000 in
set_option maxRecDepth 20000 in
theorem lt_wins_l62_ok (xs : List Int32) {d : Nat} (hd : 1 ≤ d + 1) {a1 : Int32} {r : Option Value} {τ : rn_H} {out : (Int32 × rn_Mem) ⊕ (Int32 × rn_Mem)} (hl : ∀ (rO : Int32) (mO : rn_Mem), out = .inl (rO, mO) → r = (some (.int rO)) ∧ τ = (rn_SH, mO)) (hr : ∀ (z5 : Int32) (mO : rn_Mem), out = .inr (z5, mO) → ∀ (o0 o1 o2 o3 o4 o6 o7 : Option Value), rn_R xs (d + 1) 49 159 [o0, o1, o2, o3, o4, some (.int z5), o6, o7] [] (rn_SH, mO) r τ) : ∀ (n : Nat) (a3 : Int32) (a4 : Int32) (a5 : Int32) (a6 : Int32) (o2 o7 : Option Value) (m : rn_Mem), lt_wins_l62 a1 n a3 a4 a5 a6 m = some out → rn_R xs (d + 1) 49 62 [some (.ref 0), some (.int a1), o2, some (.int a3), some (.int a4), some (.int a5), some (.int a6), o7] [] (rn_SH, m) r τ := by
  intro n
  induction n with
  | zero =>
    intro _ _ _ _ _ _ _ h
    cases h
  | succ n ih =>
    intro a3 a4 a5 a6 o2 o7 m h
    unfold lt_wins_l62 at h
    try dsimp only at h
    refine rx_p (L2 := [some (.ref 0), some (.int a1), o2, some (.int a3), some (.int a4), some (.int a5), some (.int a6), o7]) (S2 := [.int a6]) (pc2 := 64) op49_62 rfl rfl ?_
    refine rx_p (L2 := [some (.ref 0), some (.int a1), o2, some (.int a3), some (.int a4), some (.int a5), some (.int a6), o7]) (S2 := [.ref 0, .int a6]) (pc2 := 65) op49_64 rfl rfl ?_
    refine rx_gf (v := .ref 3) (pc2 := 68) op49_65 sp_0 rfl rfl rfl ?_
    refine rx_gf (v := .ref 4) (pc2 := 71) op49_68 sp_3 rfl rfl rfl ?_
    refine rx_gf (v := .int (m.1 4 1)) (pc2 := 74) op49_71 sp_4 rfl rfl rfl ?_
    refine ry_ic_ge (tgt := 159) (pc2 := 77) op49_74 (by decide) (by decide) rfl (fun b9 => ?_) (fun b9 => ?_)
    · have h := (if_pos b9).symm.trans h
      refine rx_p (L2 := [some (.ref 0), some (.int a1), o2, some (.int a3), some (.int a4), some (.int a5), some (.int a6), o7]) (S2 := [.int a1]) (pc2 := 78) op49_77 rfl rfl ?_
      refine rx_ic (v := 4) (pc2 := 79) op49_78 (by decide) rfl ?_
      refine rx_p (L2 := [some (.ref 0), some (.int a1), o2, some (.int a3), some (.int a4), some (.int a5), some (.int a6), o7]) (S2 := [.int a6, .int 4, .int a1]) (pc2 := 81) op49_79 rfl rfl ?_
      refine rx_p (L2 := [some (.ref 0), some (.int a1), o2, some (.int a3), some (.int a4), some (.int a5), some (.int a6), o7]) (S2 := [.int ((4 : Int32) * a6), .int a1]) (pc2 := 82) op49_81 rfl rfl ?_
      refine rx_p (L2 := [some (.ref 0), some (.int a1), o2, some (.int a3), some (.int a4), some (.int a5), some (.int a6), o7]) (S2 := [.int (a1 >>> (((4 : Int32) * a6) &&& 31))]) (pc2 := 83) op49_82 rfl rfl ?_
      refine rx_bp (v := 15) (pc2 := 85) op49_83 (by decide) rfl ?_
      refine rx_p (L2 := [some (.ref 0), some (.int a1), o2, some (.int a3), some (.int a4), some (.int a5), some (.int a6), o7]) (S2 := [.int ((a1 >>> (((4 : Int32) * a6) &&& 31)) &&& 15)]) (pc2 := 86) op49_85 rfl rfl ?_
      obtain ⟨x10, ex10, h⟩ := rq_bv h
      refine rx_s (v := x10) (L2 := [some (.ref 0), some (.int a1), o2, some (.int a3), some (.int a4), some (.int a5), some (.int a6), some (.int x10)]) (pc2 := 88) op49_86 ex10 rfl rfl ?_
      refine rx_p (L2 := [some (.ref 0), some (.int a1), o2, some (.int a3), some (.int a4), some (.int a5), some (.int a6), some (.int x10)]) (S2 := [.ref 0]) (pc2 := 89) op49_88 rfl rfl ?_
      refine rx_gf (v := .ref 3) (pc2 := 92) op49_89 sp_0 rfl rfl rfl ?_
      refine rx_gf (v := .ref 4) (pc2 := 95) op49_92 sp_3 rfl rfl rfl ?_
      refine rx_p (L2 := [some (.ref 0), some (.int a1), o2, some (.int a3), some (.int a4), some (.int a5), some (.int a6), some (.int x10)]) (S2 := [.int x10, .ref 4]) (pc2 := 97) op49_95 rfl rfl ?_
      obtain ⟨⟨r12, m11⟩, f13, h⟩ := rq_bind h
      try dsimp only at h
      refine ry_iv (p := 4) (vs := [.int x10]) (T := []) (pc2 := 100) op49_97 ms_50 (by decide) rfl rfl (Nat.le_of_ble_eq_true rfl) (Nat.le_of_ble_eq_true rfl) sp_4 (ga_has_ok xs (by omega) sa_4 f13) rfl ?_
      show rn_R _ _ _ _ _ [.int r12] _ _ _
      refine ry_if_eq (tgt := 112) (pc2 := 103) op49_100 (by decide) (by decide) rfl (fun b14 => ?_) (fun b14 => ?_)
      · have h := (if_pos b14).symm.trans h
        refine rx_ic (v := (-1)) (pc2 := 113) op49_112 (by decide) rfl ?_
        cases h
        obtain ⟨rfl, rfl⟩ := hl _ _ rfl
        exact ry_ri op49_113 ms_49 rfl
      · have h := (if_neg b14).symm.trans h
        refine rx_p (L2 := [some (.ref 0), some (.int a1), o2, some (.int a3), some (.int a4), some (.int a5), some (.int a6), some (.int x10)]) (S2 := [.int a3]) (pc2 := 104) op49_103 rfl rfl ?_
        refine rx_p (L2 := [some (.ref 0), some (.int a1), o2, some (.int a3), some (.int a4), some (.int a5), some (.int a6), some (.int x10)]) (S2 := [.int x10, .int a3]) (pc2 := 106) op49_104 rfl rfl ?_
        refine rx_p (L2 := [some (.ref 0), some (.int a1), o2, some (.int a3), some (.int a4), some (.int a5), some (.int a6), some (.int x10)]) (S2 := [.int (a3 >>> (x10 &&& 31))]) (pc2 := 107) op49_106 rfl rfl ?_
        refine rx_ic (v := 1) (pc2 := 108) op49_107 (by decide) rfl ?_
        refine rx_p (L2 := [some (.ref 0), some (.int a1), o2, some (.int a3), some (.int a4), some (.int a5), some (.int a6), some (.int x10)]) (S2 := [.int ((a3 >>> (x10 &&& 31)) &&& 1)]) (pc2 := 109) op49_108 rfl rfl ?_
        refine ry_if_eq (tgt := 114) (pc2 := 112) op49_109 (by decide) (by decide) rfl (fun b15 => ?_) (fun b15 => ?_)
        · have h := (if_pos b15).symm.trans h
          refine rx_p (L2 := [some (.ref 0), some (.int a1), o2, some (.int a3), some (.int a4), some (.int a5), some (.int a6), some (.int x10)]) (S2 := [.int a3]) (pc2 := 115) op49_114 rfl rfl ?_
          refine rx_ic (v := 1) (pc2 := 116) op49_115 (by decide) rfl ?_
          refine rx_p (L2 := [some (.ref 0), some (.int a1), o2, some (.int a3), some (.int a4), some (.int a5), some (.int a6), some (.int x10)]) (S2 := [.int x10, .int 1, .int a3]) (pc2 := 118) op49_116 rfl rfl ?_
          refine rx_p (L2 := [some (.ref 0), some (.int a1), o2, some (.int a3), some (.int a4), some (.int a5), some (.int a6), some (.int x10)]) (S2 := [.int ((1 : Int32) <<< (x10 &&& 31)), .int a3]) (pc2 := 119) op49_118 rfl rfl ?_
          refine rx_p (L2 := [some (.ref 0), some (.int a1), o2, some (.int a3), some (.int a4), some (.int a5), some (.int a6), some (.int x10)]) (S2 := [.int (a3 ||| ((1 : Int32) <<< (x10 &&& 31)))]) (pc2 := 120) op49_119 rfl rfl ?_
          obtain ⟨x17, ex17, h⟩ := rq_bv h
          refine rx_sd (v := x17) (j := 2) (pc2 := 121) op49_120 rfl ex17 (Nat.le_of_ble_eq_true rfl) rfl (fun o16 => ?_)
          show rn_R _ _ _ _ [some (.ref 0), some (.int a1), o16, some (.int x17), some (.int a4), some (.int a5), some (.int a6), some (.int x10)] _ _ _ _
          refine rx_p (L2 := [some (.ref 0), some (.int a1), o16, some (.int x17), some (.int a4), some (.int a5), some (.int a6), some (.int x10)]) (S2 := [.ref 0]) (pc2 := 122) op49_121 rfl rfl ?_
          refine rx_gf (v := .ref 3) (pc2 := 125) op49_122 sp_0 rfl rfl rfl ?_
          refine rx_gf (v := .ref 4) (pc2 := 128) op49_125 sp_3 rfl rfl rfl ?_
          refine rx_p (L2 := [some (.ref 0), some (.int a1), o16, some (.int x17), some (.int a4), some (.int a5), some (.int a6), some (.int x10)]) (S2 := [.int a5, .ref 4]) (pc2 := 130) op49_128 rfl rfl ?_
          refine rx_p (L2 := [some (.ref 0), some (.int a1), o16, some (.int x17), some (.int a4), some (.int a5), some (.int a6), some (.int x10)]) (S2 := [.int a4, .int a5, .ref 4]) (pc2 := 132) op49_130 rfl rfl ?_
          refine rx_p (L2 := [some (.ref 0), some (.int a1), o16, some (.int x17), some (.int a4), some (.int a5), some (.int a6), some (.int x10)]) (S2 := [.int x10, .int a4, .int a5, .ref 4]) (pc2 := 134) op49_132 rfl rfl ?_
          obtain ⟨⟨r19, m18⟩, f20, h⟩ := rq_bind h
          try dsimp only at h
          refine ry_iv (p := 4) (vs := [.int a5, .int a4, .int x10]) (T := []) (pc2 := 137) op49_134 ms_51 (by decide) rfl rfl (Nat.le_of_ble_eq_true rfl) (Nat.le_of_ble_eq_true rfl) sp_4 (ga_join_ok xs (by omega) sa_4 f20) rfl ?_
          show rn_R _ _ _ _ _ [.int r19] _ _ _
          refine rx_s (L2 := [some (.ref 0), some (.int a1), o16, some (.int x17), some (.int a4), some (.int r19), some (.int a6), some (.int x10)]) (pc2 := 139) op49_137 rfl rfl rfl ?_
          refine rx_p (L2 := [some (.ref 0), some (.int a1), o16, some (.int x17), some (.int a4), some (.int r19), some (.int a6), some (.int x10)]) (S2 := [.ref 0]) (pc2 := 140) op49_139 rfl rfl ?_
          refine rx_gf (v := .ref 3) (pc2 := 143) op49_140 sp_0 rfl rfl rfl ?_
          refine rx_gf (v := .ref 4) (pc2 := 146) op49_143 sp_3 rfl rfl rfl ?_
          refine rx_p (L2 := [some (.ref 0), some (.int a1), o16, some (.int x17), some (.int a4), some (.int r19), some (.int a6), some (.int x10)]) (S2 := [.int a4, .ref 4]) (pc2 := 148) op49_146 rfl rfl ?_
          obtain ⟨⟨r22, m21⟩, f23, h⟩ := rq_bind h
          try dsimp only at h
          refine ry_iv (p := 4) (vs := [.int a4]) (T := []) (pc2 := 151) op49_148 ms_52 (by decide) rfl rfl (Nat.le_of_ble_eq_true rfl) (Nat.le_of_ble_eq_true rfl) sp_4 (ga_next_ok xs (by omega) sa_4 f23) rfl ?_
          show rn_R _ _ _ _ _ [.int r22] _ _ _
          refine rx_s (L2 := [some (.ref 0), some (.int a1), o16, some (.int x17), some (.int r22), some (.int r19), some (.int a6), some (.int x10)]) (pc2 := 153) op49_151 rfl rfl rfl ?_
          obtain ⟨x24, ex24, h⟩ := rq_bv h
          refine rx_inc (w := 1) (v := x24) (L2 := [some (.ref 0), some (.int a1), o16, some (.int x17), some (.int r22), some (.int r19), some (.int x24), some (.int x10)]) (pc2 := 156) op49_153 rfl (by decide) ex24 rfl rfl ?_
          refine ry_go (tgt := 62) op49_156 (by decide) (by decide) ?_
          exact ih _ _ _ _ _ _ _ h
        · have h := (if_neg b15).symm.trans h
          refine rx_ic (v := (-1)) (pc2 := 113) op49_112 (by decide) rfl ?_
          cases h
          obtain ⟨rfl, rfl⟩ := hl _ _ rfl
          exact ry_ri op49_113 ms_49 rfl
    · have h := (if_neg b9).symm.trans h
      cases h
      exact hr _ _ rfl _ _ _ _ _ _ _
set_option maxHeartbeats 4000000 in
set_option maxRecDepth 20000 in
theorem lt_wins_ok (xs : List Int32) {d : Nat} (hd : 1 ≤ d) {n : Nat} {a1 : Int32} {a2 : Int32} {m mO : rn_Mem} {rO : Int32} (h : lt_wins n a1 a2 m = some (rO, mO)) : rn_R xs d 49 0 (rn_ent 8 [.ref 0, .int a1, .int a2]) [] (rn_SH, m) (some (.int rO)) (rn_SH, mO) := by
  obtain ⟨d, rfl⟩ : ∃ e, d = e + 1 := ⟨d - 1, by omega⟩
  unfold lt_wins at h
  show rn_R xs (d + 1) 49 0 [some (.ref 0), some (.int a1), some (.int a2), none, none, none, none, none] [] (rn_SH, m) (some (.int rO)) (rn_SH, mO)
  refine rx_p (L2 := [some (.ref 0), some (.int a1), some (.int a2), none, none, none, none, none]) (S2 := [.int a1]) (pc2 := 1) op49_0 rfl rfl ?_
  refine ry_if_lt (tgt := 17) (pc2 := 4) op49_1 (by decide) (by decide) rfl (fun b1 => ?_) (fun b1 => ?_)
  · have h := (if_pos b1).symm.trans h
    refine rx_ic (v := (-1)) (pc2 := 18) op49_17 (by decide) rfl ?_
    obtain ⟨rfl, rfl⟩ := rq_ret h
    exact ry_ri op49_18 ms_49 rfl
  · have h := (if_neg b1).symm.trans h
    refine rx_p (L2 := [some (.ref 0), some (.int a1), some (.int a2), none, none, none, none, none]) (S2 := [.int a1]) (pc2 := 5) op49_4 rfl rfl ?_
    refine rx_ld (v := 65535) (pc2 := 7) op49_5 (by decide) rfl ?_
    refine ry_ic_gt (tgt := 17) (pc2 := 10) op49_7 (by decide) (by decide) rfl (fun b2 => ?_) (fun b2 => ?_)
    · have h := (if_pos b2).symm.trans h
      refine rx_ic (v := (-1)) (pc2 := 18) op49_17 (by decide) rfl ?_
      obtain ⟨rfl, rfl⟩ := rq_ret h
      exact ry_ri op49_18 ms_49 rfl
    · have h := (if_neg b2).symm.trans h
      refine rx_p (L2 := [some (.ref 0), some (.int a1), some (.int a2), none, none, none, none, none]) (S2 := [.int a2]) (pc2 := 11) op49_10 rfl rfl ?_
      obtain ⟨⟨r4, m3⟩, f5, h⟩ := rq_bind h
      try dsimp only at h
      refine ry_is (vs := [.int a2]) (T := []) (pc2 := 14) op49_11 (by decide) ms_39 (by decide) rfl rfl (Nat.le_of_ble_eq_true rfl) (Nat.le_of_ble_eq_true rfl) (lt_isNoChair_ok xs (by omega)  f5) rfl ?_
      show rn_R _ _ _ _ _ [.int r4] _ _ _
      refine ry_if_eq (tgt := 19) (pc2 := 17) op49_14 (by decide) (by decide) rfl (fun b6 => ?_) (fun b6 => ?_)
      · have h := (if_pos b6).symm.trans h
        refine rx_p (L2 := [some (.ref 0), some (.int a1), some (.int a2), none, none, none, none, none]) (S2 := [.ref 0]) (pc2 := 20) op49_19 rfl rfl ?_
        refine rx_gf (v := .ref 3) (pc2 := 23) op49_20 sp_0 rfl rfl rfl ?_
        refine rx_gf (v := .ref 4) (pc2 := 26) op49_23 sp_3 rfl rfl rfl ?_
        refine rx_gf (v := .int (m3.1 4 0)) (pc2 := 29) op49_26 sp_4 rfl rfl rfl ?_
        refine ry_if_ne (tgt := 35) (pc2 := 32) op49_29 (by decide) (by decide) rfl (fun b7 => ?_) (fun b7 => ?_)
        · have h := (if_pos b7).symm.trans h
          refine rx_bp (v := (-2)) (pc2 := 34) op49_32 (by decide) rfl ?_
          obtain ⟨rfl, rfl⟩ := rq_ret h
          exact ry_ri op49_34 ms_49 rfl
        · have h := (if_neg b7).symm.trans h
          refine rx_p (L2 := [some (.ref 0), some (.int a1), some (.int a2), none, none, none, none, none]) (S2 := [.int a2]) (pc2 := 36) op49_35 rfl rfl ?_
          refine rx_p (L2 := [some (.ref 0), some (.int a1), some (.int a2), none, none, none, none, none]) (S2 := [.ref 0, .int a2]) (pc2 := 37) op49_36 rfl rfl ?_
          refine rx_gf (v := .ref 3) (pc2 := 40) op49_37 sp_0 rfl rfl rfl ?_
          refine rx_gf (v := .ref 4) (pc2 := 43) op49_40 sp_3 rfl rfl rfl ?_
          refine rx_gf (v := .int (m3.1 4 1)) (pc2 := 46) op49_43 sp_4 rfl rfl rfl ?_
          refine ry_ic_lt (tgt := 51) (pc2 := 49) op49_46 (by decide) (by decide) rfl (fun b8 => ?_) (fun b8 => ?_)
          · have h := (if_pos b8).symm.trans h
            refine rx_ic (v := 0) (pc2 := 52) op49_51 (by decide) rfl ?_
            refine rx_s (L2 := [some (.ref 0), some (.int a1), some (.int a2), some (.int 0), none, none, none, none]) (pc2 := 53) op49_52 rfl rfl rfl ?_
            refine rx_p (L2 := [some (.ref 0), some (.int a1), some (.int a2), some (.int 0), none, none, none, none]) (S2 := [.int a2]) (pc2 := 54) op49_53 rfl rfl ?_
            refine rx_s (L2 := [some (.ref 0), some (.int a1), some (.int a2), some (.int 0), some (.int a2), none, none, none]) (pc2 := 56) op49_54 rfl rfl rfl ?_
            refine rx_ic (v := (-1)) (pc2 := 57) op49_56 (by decide) rfl ?_
            refine rx_s (L2 := [some (.ref 0), some (.int a1), some (.int a2), some (.int 0), some (.int a2), some (.int (-1)), none, none]) (pc2 := 59) op49_57 rfl rfl rfl ?_
            refine rx_ic (v := 0) (pc2 := 60) op49_59 (by decide) rfl ?_
            refine rx_s (L2 := [some (.ref 0), some (.int a1), some (.int a2), some (.int 0), some (.int a2), some (.int (-1)), some (.int 0), none]) (pc2 := 62) op49_60 rfl rfl rfl ?_
            obtain ⟨wf37, f37, h⟩ := rq_bind h
            refine lt_wins_l62_ok xs hd (fun v0 m0 eq => ?_) (fun x31 m25 eq => ?_) _ _ _ _ _ _ _ _  f37
            · subst eq
              try dsimp only at h
              cases h
              exact ⟨rfl, rfl⟩
            · subst eq
              try dsimp only at h
              intro o26 o27 o28 o29 o30 o32 o33
              refine rx_p (L2 := [o26, o27, o28, o29, o30, some (.int x31), o32, o33]) (S2 := [.int x31]) (pc2 := 161) op49_159 rfl rfl ?_
              obtain ⟨⟨r35, m34⟩, f36, h⟩ := rq_bind h
              try dsimp only at h
              refine ry_is (vs := [.int x31]) (T := []) (pc2 := 164) op49_161 (by decide) ms_53 (by decide) rfl rfl (Nat.le_of_ble_eq_true rfl) (Nat.le_of_ble_eq_true rfl) (ga_winnerOf_ok xs (by omega)  f36) rfl ?_
              show rn_R _ _ _ _ _ [.int r35] _ _ _
              obtain ⟨rfl, rfl⟩ := rq_ret h
              exact ry_ri op49_164 ms_49 rfl
          · have h := (if_neg b8).symm.trans h
            refine rx_ic (v := (-1)) (pc2 := 50) op49_49 (by decide) rfl ?_
            obtain ⟨rfl, rfl⟩ := rq_ret h
            exact ry_ri op49_50 ms_49 rfl
      · have h := (if_neg b6).symm.trans h
        refine rx_ic (v := (-1)) (pc2 := 18) op49_17 (by decide) rfl ?_
        obtain ⟨rfl, rfl⟩ := rq_ret h
        exact ry_ri op49_18 ms_49 rfl
/-! cl_sound -/
theorem op55_0 : rn_op 55 0 = some (.iload_n 0, 1, 0, 0, 0) := by decide +kernel
theorem op55_1 : rn_op 55 1 = some (.ifCond .lt 20, 3, 0, 0, 0) := by decide +kernel
theorem op55_4 : rn_op 55 4 = some (.iload_n 0, 1, 0, 0, 0) := by decide +kernel
theorem op55_5 : rn_op 55 5 = some (.iconst 3, 1, 0, 0, 0) := by decide +kernel
theorem op55_6 : rn_op 55 6 = some (.if_icmp .gt 15, 3, 0, 0, 0) := by decide +kernel
theorem op55_9 : rn_op 55 9 = some (.iload_n 1, 1, 0, 0, 0) := by decide +kernel
theorem op55_10 : rn_op 55 10 = some (.ifCond .lt 11, 3, 0, 0, 0) := by decide +kernel
theorem op55_13 : rn_op 55 13 = some (.iload_n 2, 1, 0, 0, 0) := by decide +kernel
theorem op55_14 : rn_op 55 14 = some (.ifCond .lt 7, 3, 0, 0, 0) := by decide +kernel
theorem op55_17 : rn_op 55 17 = some (.iload_n 3, 1, 0, 0, 0) := by decide +kernel
theorem op55_18 : rn_op 55 18 = some (.ifCond .ge 5, 3, 0, 0, 0) := by decide +kernel
theorem op55_21 : rn_op 55 21 = some (.iconst 0, 1, 0, 0, 0) := by decide +kernel
theorem op55_22 : rn_op 55 22 = some (.ireturn, 1, 0, 0, 0) := by decide +kernel
theorem op55_23 : rn_op 55 23 = some (.iload_n 0, 1, 0, 0, 0) := by decide +kernel
theorem op55_24 : rn_op 55 24 = some (.iconst 2, 1, 0, 0, 0) := by decide +kernel
theorem op55_25 : rn_op 55 25 = some (.if_icmp .ne 10, 3, 0, 0, 0) := by decide +kernel
theorem op55_28 : rn_op 55 28 = some (.iload_n 1, 1, 0, 0, 0) := by decide +kernel
theorem op55_29 : rn_op 55 29 = some (.iload_n 2, 1, 0, 0, 0) := by decide +kernel
theorem op55_30 : rn_op 55 30 = some (.if_icmp .ne 5, 3, 0, 0, 0) := by decide +kernel
theorem op55_33 : rn_op 55 33 = some (.iconst 0, 1, 0, 0, 0) := by decide +kernel
theorem op55_34 : rn_op 55 34 = some (.ireturn, 1, 0, 0, 0) := by decide +kernel
theorem op55_35 : rn_op 55 35 = some (.iload_n 0, 1, 0, 0, 0) := by decide +kernel
theorem op55_36 : rn_op 55 36 = some (.iconst 2, 1, 0, 0, 0) := by decide +kernel
theorem op55_37 : rn_op 55 37 = some (.if_icmp .ne 8, 3, 0, 0, 0) := by decide +kernel
theorem op55_40 : rn_op 55 40 = some (.bipush 16, 2, 0, 0, 0) := by decide +kernel
theorem op55_42 : rn_op 55 42 = some (.goto 4, 3, 0, 0, 0) := by decide +kernel
theorem op55_45 : rn_op 55 45 = some (.iconst 4, 1, 0, 0, 0) := by decide +kernel
theorem op55_46 : rn_op 55 46 = some (.istore 4, 2, 0, 0, 0) := by decide +kernel
theorem op55_48 : rn_op 55 48 = some (.iload_n 0, 1, 0, 0, 0) := by decide +kernel
theorem op55_49 : rn_op 55 49 = some (.ifCond .eq 8, 3, 0, 0, 0) := by decide +kernel
theorem op55_52 : rn_op 55 52 = some (.iload_n 0, 1, 0, 0, 0) := by decide +kernel
theorem op55_53 : rn_op 55 53 = some (.iconst 2, 1, 0, 0, 0) := by decide +kernel
theorem op55_54 : rn_op 55 54 = some (.if_icmp .ne 8, 3, 0, 0, 0) := by decide +kernel
theorem op55_57 : rn_op 55 57 = some (.bipush 16, 2, 0, 0, 0) := by decide +kernel
theorem op55_59 : rn_op 55 59 = some (.goto 13, 3, 0, 0, 0) := by decide +kernel
theorem op55_62 : rn_op 55 62 = some (.iload_n 0, 1, 0, 0, 0) := by decide +kernel
theorem op55_63 : rn_op 55 63 = some (.iconst 1, 1, 0, 0, 0) := by decide +kernel
theorem op55_64 : rn_op 55 64 = some (.if_icmp .ne 7, 3, 0, 0, 0) := by decide +kernel
theorem op55_67 : rn_op 55 67 = some (.iconst 4, 1, 0, 0, 0) := by decide +kernel
theorem op55_68 : rn_op 55 68 = some (.goto 4, 3, 0, 0, 0) := by decide +kernel
theorem op55_71 : rn_op 55 71 = some (.iconst 4, 1, 0, 0, 0) := by decide +kernel
theorem op55_72 : rn_op 55 72 = some (.istore 5, 2, 0, 0, 0) := by decide +kernel
theorem op55_74 : rn_op 55 74 = some (.iload_n 0, 1, 0, 0, 0) := by decide +kernel
theorem op55_75 : rn_op 55 75 = some (.iconst 3, 1, 0, 0, 0) := by decide +kernel
theorem op55_76 : rn_op 55 76 = some (.if_icmp .ne 7, 3, 0, 0, 0) := by decide +kernel
theorem op55_79 : rn_op 55 79 = some (.iconst 4, 1, 0, 0, 0) := by decide +kernel
theorem op55_80 : rn_op 55 80 = some (.goto 4, 3, 0, 0, 0) := by decide +kernel
theorem op55_83 : rn_op 55 83 = some (.iconst 1, 1, 0, 0, 0) := by decide +kernel
theorem op55_84 : rn_op 55 84 = some (.istore 6, 2, 0, 0, 0) := by decide +kernel
theorem op55_86 : rn_op 55 86 = some (.iload_n 1, 1, 0, 0, 0) := by decide +kernel
theorem op55_87 : rn_op 55 87 = some (.iload 4, 2, 0, 0, 0) := by decide +kernel
theorem op55_89 : rn_op 55 89 = some (.if_icmp .ge 19, 3, 0, 0, 0) := by decide +kernel
theorem op55_92 : rn_op 55 92 = some (.iload_n 2, 1, 0, 0, 0) := by decide +kernel
theorem op55_93 : rn_op 55 93 = some (.iload 5, 2, 0, 0, 0) := by decide +kernel
theorem op55_95 : rn_op 55 95 = some (.if_icmp .ge 13, 3, 0, 0, 0) := by decide +kernel
theorem op55_98 : rn_op 55 98 = some (.iload_n 3, 1, 0, 0, 0) := by decide +kernel
theorem op55_99 : rn_op 55 99 = some (.iload 6, 2, 0, 0, 0) := by decide +kernel
theorem op55_101 : rn_op 55 101 = some (.if_icmp .ge 7, 3, 0, 0, 0) := by decide +kernel
theorem op55_104 : rn_op 55 104 = some (.iconst 1, 1, 0, 0, 0) := by decide +kernel
theorem op55_105 : rn_op 55 105 = some (.goto 4, 3, 0, 0, 0) := by decide +kernel
theorem op55_108 : rn_op 55 108 = some (.iconst 0, 1, 0, 0, 0) := by decide +kernel
theorem op55_109 : rn_op 55 109 = some (.ireturn, 1, 0, 0, 0) := by decide +kernel
def cl_sound (n : Nat) (a0 : Int32) (a1 : Int32) (a2 : Int32) (a3 : Int32) (m : rn_Mem) : Option (Int32 × rn_Mem) :=
  if a0 < 0 then
    some (0, m)
  else
    if 3 < a0 then
      some (0, m)
    else
      if a1 < 0 then
        some (0, m)
      else
        if a2 < 0 then
          some (0, m)
        else
          if a3 < 0 then
            some (0, m)
          else
            if a0 = 2 then
              if a1 = a2 then
                some (0, m)
              else
                (show Option (Int32) from
                  if a0 = 2 then
                    some (16)
                  else
                    some (4)).bind fun x13 =>
                (show Option (Int32) from
                  if a0 = 0 then
                    some (16)
                  else
                    if a0 = 2 then
                      some (16)
                    else
                      if a0 = 1 then
                        some (4)
                      else
                        some (4)).bind fun x19 =>
                (show Option (Int32) from
                  if a0 = 3 then
                    some (4)
                  else
                    some (1)).bind fun x23 =>
                if a1 < x13 then
                  if a2 < x19 then
                    if a3 < x23 then
                      some (1, m)
                    else
                      some (0, m)
                  else
                    some (0, m)
                else
                  some (0, m)
            else
              (show Option (Int32) from
                if a0 = 2 then
                  some (16)
                else
                  some (4)).bind fun x34 =>
              (show Option (Int32) from
                if a0 = 0 then
                  some (16)
                else
                  if a0 = 2 then
                    some (16)
                  else
                    if a0 = 1 then
                      some (4)
                    else
                      some (4)).bind fun x40 =>
              (show Option (Int32) from
                if a0 = 3 then
                  some (4)
                else
                  some (1)).bind fun x44 =>
              if a1 < x34 then
                if a2 < x40 then
                  if a3 < x44 then
                    some (1, m)
                  else
                    some (0, m)
                else
                  some (0, m)
              else
                some (0, m)
set_option maxHeartbeats 4000000 in
set_option maxRecDepth 20000 in
theorem cl_sound_ok (xs : List Int32) {d : Nat} (hd : 0 ≤ d) {n : Nat} {a0 : Int32} {a1 : Int32} {a2 : Int32} {a3 : Int32} {m mO : rn_Mem} {rO : Int32} (h : cl_sound n a0 a1 a2 a3 m = some (rO, mO)) : rn_R xs d 55 0 (rn_ent 7 [.int a0, .int a1, .int a2, .int a3]) [] (rn_SH, m) (some (.int rO)) (rn_SH, mO) := by
  unfold cl_sound at h
  show rn_R xs d 55 0 [some (.int a0), some (.int a1), some (.int a2), some (.int a3), none, none, none] [] (rn_SH, m) (some (.int rO)) (rn_SH, mO)
  refine rx_p (L2 := [some (.int a0), some (.int a1), some (.int a2), some (.int a3), none, none, none]) (S2 := [.int a0]) (pc2 := 1) op55_0 rfl rfl ?_
  refine ry_if_lt (tgt := 21) (pc2 := 4) op55_1 (by decide) (by decide) rfl (fun b1 => ?_) (fun b1 => ?_)
  · have h := (if_pos b1).symm.trans h
    refine rx_ic (v := 0) (pc2 := 22) op55_21 (by decide) rfl ?_
    obtain ⟨rfl, rfl⟩ := rq_ret h
    exact ry_rz (x := 0) op55_22 ms_55 rfl (by decide)
  · have h := (if_neg b1).symm.trans h
    refine rx_p (L2 := [some (.int a0), some (.int a1), some (.int a2), some (.int a3), none, none, none]) (S2 := [.int a0]) (pc2 := 5) op55_4 rfl rfl ?_
    refine rx_ic (v := 3) (pc2 := 6) op55_5 (by decide) rfl ?_
    refine ry_ic_gt (tgt := 21) (pc2 := 9) op55_6 (by decide) (by decide) rfl (fun b2 => ?_) (fun b2 => ?_)
    · have h := (if_pos b2).symm.trans h
      refine rx_ic (v := 0) (pc2 := 22) op55_21 (by decide) rfl ?_
      obtain ⟨rfl, rfl⟩ := rq_ret h
      exact ry_rz (x := 0) op55_22 ms_55 rfl (by decide)
    · have h := (if_neg b2).symm.trans h
      refine rx_p (L2 := [some (.int a0), some (.int a1), some (.int a2), some (.int a3), none, none, none]) (S2 := [.int a1]) (pc2 := 10) op55_9 rfl rfl ?_
      refine ry_if_lt (tgt := 21) (pc2 := 13) op55_10 (by decide) (by decide) rfl (fun b3 => ?_) (fun b3 => ?_)
      · have h := (if_pos b3).symm.trans h
        refine rx_ic (v := 0) (pc2 := 22) op55_21 (by decide) rfl ?_
        obtain ⟨rfl, rfl⟩ := rq_ret h
        exact ry_rz (x := 0) op55_22 ms_55 rfl (by decide)
      · have h := (if_neg b3).symm.trans h
        refine rx_p (L2 := [some (.int a0), some (.int a1), some (.int a2), some (.int a3), none, none, none]) (S2 := [.int a2]) (pc2 := 14) op55_13 rfl rfl ?_
        refine ry_if_lt (tgt := 21) (pc2 := 17) op55_14 (by decide) (by decide) rfl (fun b4 => ?_) (fun b4 => ?_)
        · have h := (if_pos b4).symm.trans h
          refine rx_ic (v := 0) (pc2 := 22) op55_21 (by decide) rfl ?_
          obtain ⟨rfl, rfl⟩ := rq_ret h
          exact ry_rz (x := 0) op55_22 ms_55 rfl (by decide)
        · have h := (if_neg b4).symm.trans h
          refine rx_p (L2 := [some (.int a0), some (.int a1), some (.int a2), some (.int a3), none, none, none]) (S2 := [.int a3]) (pc2 := 18) op55_17 rfl rfl ?_
          refine ry_if_ge (tgt := 23) (pc2 := 21) op55_18 (by decide) (by decide) rfl (fun b5 => ?_) (fun b5 => ?_)
          · have h := (if_pos b5).symm.trans h
            refine rx_ic (v := 0) (pc2 := 22) op55_21 (by decide) rfl ?_
            obtain ⟨rfl, rfl⟩ := rq_ret h
            exact ry_rz (x := 0) op55_22 ms_55 rfl (by decide)
          · have h := (if_neg b5).symm.trans h
            refine rx_p (L2 := [some (.int a0), some (.int a1), some (.int a2), some (.int a3), none, none, none]) (S2 := [.int a0]) (pc2 := 24) op55_23 rfl rfl ?_
            refine rx_ic (v := 2) (pc2 := 25) op55_24 (by decide) rfl ?_
            refine ry_ic_ne (tgt := 35) (pc2 := 28) op55_25 (by decide) (by decide) rfl (fun b6 => ?_) (fun b6 => ?_)
            · have h := (if_pos b6).symm.trans h
              refine rx_p (L2 := [some (.int a0), some (.int a1), some (.int a2), some (.int a3), none, none, none]) (S2 := [.int a1]) (pc2 := 29) op55_28 rfl rfl ?_
              refine rx_p (L2 := [some (.int a0), some (.int a1), some (.int a2), some (.int a3), none, none, none]) (S2 := [.int a2, .int a1]) (pc2 := 30) op55_29 rfl rfl ?_
              refine ry_ic_ne (tgt := 35) (pc2 := 33) op55_30 (by decide) (by decide) rfl (fun b8 => ?_) (fun b8 => ?_)
              · have h := (if_pos b8).symm.trans h
                refine rx_ic (v := 0) (pc2 := 34) op55_33 (by decide) rfl ?_
                obtain ⟨rfl, rfl⟩ := rq_ret h
                exact ry_rz (x := 0) op55_34 ms_55 rfl (by decide)
              · have h := (if_neg b8).symm.trans h
                refine rx_p (L2 := [some (.int a0), some (.int a1), some (.int a2), some (.int a3), none, none, none]) (S2 := [.int a0]) (pc2 := 36) op55_35 rfl rfl ?_
                refine rx_ic (v := 2) (pc2 := 37) op55_36 (by decide) rfl ?_
                obtain ⟨x13, gc29, h⟩ := rq_bind h
                try dsimp only at h
                have c29 : ∀ (o10 o11 o12 : Option Value), rn_R xs d 55 46 [some (.int a0), some (.int a1), some (.int a2), some (.int a3), o10, o11, o12] [.int x13] (rn_SH, m) (some (.int rO)) (rn_SH, mO) := by
                  intro o10 o11 o12
                  refine rx_s (L2 := [some (.int a0), some (.int a1), some (.int a2), some (.int a3), some (.int x13), o11, o12]) (pc2 := 48) op55_46 rfl rfl rfl ?_
                  refine rx_p (L2 := [some (.int a0), some (.int a1), some (.int a2), some (.int a3), some (.int x13), o11, o12]) (S2 := [.int a0]) (pc2 := 49) op55_48 rfl rfl ?_
                  obtain ⟨x19, gc28, h⟩ := rq_bind h
                  try dsimp only at h
                  have c28 : ∀ (o17 o18 : Option Value), rn_R xs d 55 72 [some (.int a0), some (.int a1), some (.int a2), some (.int a3), some (.int x13), o17, o18] [.int x19] (rn_SH, m) (some (.int rO)) (rn_SH, mO) := by
                    intro o17 o18
                    refine rx_s (L2 := [some (.int a0), some (.int a1), some (.int a2), some (.int a3), some (.int x13), some (.int x19), o18]) (pc2 := 74) op55_72 rfl rfl rfl ?_
                    refine rx_p (L2 := [some (.int a0), some (.int a1), some (.int a2), some (.int a3), some (.int x13), some (.int x19), o18]) (S2 := [.int a0]) (pc2 := 75) op55_74 rfl rfl ?_
                    refine rx_ic (v := 3) (pc2 := 76) op55_75 (by decide) rfl ?_
                    obtain ⟨x23, gc27, h⟩ := rq_bind h
                    try dsimp only at h
                    have c27 : ∀ (o21 o22 : Option Value), rn_R xs d 55 84 [o21, some (.int a1), some (.int a2), some (.int a3), some (.int x13), some (.int x19), o22] [.int x23] (rn_SH, m) (some (.int rO)) (rn_SH, mO) := by
                      intro o21 o22
                      refine rx_s (L2 := [o21, some (.int a1), some (.int a2), some (.int a3), some (.int x13), some (.int x19), some (.int x23)]) (pc2 := 86) op55_84 rfl rfl rfl ?_
                      refine rx_p (L2 := [o21, some (.int a1), some (.int a2), some (.int a3), some (.int x13), some (.int x19), some (.int x23)]) (S2 := [.int a1]) (pc2 := 87) op55_86 rfl rfl ?_
                      refine rx_p (L2 := [o21, some (.int a1), some (.int a2), some (.int a3), some (.int x13), some (.int x19), some (.int x23)]) (S2 := [.int x13, .int a1]) (pc2 := 89) op55_87 rfl rfl ?_
                      refine ry_ic_ge (tgt := 108) (pc2 := 92) op55_89 (by decide) (by decide) rfl (fun b24 => ?_) (fun b24 => ?_)
                      · have h := (if_pos b24).symm.trans h
                        refine rx_p (L2 := [o21, some (.int a1), some (.int a2), some (.int a3), some (.int x13), some (.int x19), some (.int x23)]) (S2 := [.int a2]) (pc2 := 93) op55_92 rfl rfl ?_
                        refine rx_p (L2 := [o21, some (.int a1), some (.int a2), some (.int a3), some (.int x13), some (.int x19), some (.int x23)]) (S2 := [.int x19, .int a2]) (pc2 := 95) op55_93 rfl rfl ?_
                        refine ry_ic_ge (tgt := 108) (pc2 := 98) op55_95 (by decide) (by decide) rfl (fun b25 => ?_) (fun b25 => ?_)
                        · have h := (if_pos b25).symm.trans h
                          refine rx_p (L2 := [o21, some (.int a1), some (.int a2), some (.int a3), some (.int x13), some (.int x19), some (.int x23)]) (S2 := [.int a3]) (pc2 := 99) op55_98 rfl rfl ?_
                          refine rx_p (L2 := [o21, some (.int a1), some (.int a2), some (.int a3), some (.int x13), some (.int x19), some (.int x23)]) (S2 := [.int x23, .int a3]) (pc2 := 101) op55_99 rfl rfl ?_
                          refine ry_ic_ge (tgt := 108) (pc2 := 104) op55_101 (by decide) (by decide) rfl (fun b26 => ?_) (fun b26 => ?_)
                          · have h := (if_pos b26).symm.trans h
                            refine rx_ic (v := 1) (pc2 := 105) op55_104 (by decide) rfl ?_
                            refine ry_go (tgt := 109) op55_105 (by decide) (by decide) ?_
                            obtain ⟨rfl, rfl⟩ := rq_ret h
                            exact ry_rz (x := 1) op55_109 ms_55 rfl (by decide)
                          · have h := (if_neg b26).symm.trans h
                            refine rx_ic (v := 0) (pc2 := 109) op55_108 (by decide) rfl ?_
                            obtain ⟨rfl, rfl⟩ := rq_ret h
                            exact ry_rz (x := 0) op55_109 ms_55 rfl (by decide)
                        · have h := (if_neg b25).symm.trans h
                          refine rx_ic (v := 0) (pc2 := 109) op55_108 (by decide) rfl ?_
                          obtain ⟨rfl, rfl⟩ := rq_ret h
                          exact ry_rz (x := 0) op55_109 ms_55 rfl (by decide)
                      · have h := (if_neg b24).symm.trans h
                        refine rx_ic (v := 0) (pc2 := 109) op55_108 (by decide) rfl ?_
                        obtain ⟨rfl, rfl⟩ := rq_ret h
                        exact ry_rz (x := 0) op55_109 ms_55 rfl (by decide)
                    refine ry_ic_ne (tgt := 83) (pc2 := 79) op55_76 (by decide) (by decide) rfl (fun b20 => ?_) (fun b20 => ?_)
                    · have gc27 := (if_pos b20).symm.trans gc27
                      refine rx_ic (v := 4) (pc2 := 80) op55_79 (by decide) rfl ?_
                      refine ry_go (tgt := 84) op55_80 (by decide) (by decide) ?_
                      cases gc27
                      exact c27 _ _
                    · have gc27 := (if_neg b20).symm.trans gc27
                      refine rx_ic (v := 1) (pc2 := 84) op55_83 (by decide) rfl ?_
                      cases gc27
                      exact c27 _ _
                  refine ry_if_eq (tgt := 57) (pc2 := 52) op55_49 (by decide) (by decide) rfl (fun b14 => ?_) (fun b14 => ?_)
                  · have gc28 := (if_pos b14).symm.trans gc28
                    refine rx_bp (v := 16) (pc2 := 59) op55_57 (by decide) rfl ?_
                    refine ry_go (tgt := 72) op55_59 (by decide) (by decide) ?_
                    cases gc28
                    exact c28 _ _
                  · have gc28 := (if_neg b14).symm.trans gc28
                    refine rx_p (L2 := [some (.int a0), some (.int a1), some (.int a2), some (.int a3), some (.int x13), o11, o12]) (S2 := [.int a0]) (pc2 := 53) op55_52 rfl rfl ?_
                    refine rx_ic (v := 2) (pc2 := 54) op55_53 (by decide) rfl ?_
                    refine ry_ic_ne (tgt := 62) (pc2 := 57) op55_54 (by decide) (by decide) rfl (fun b15 => ?_) (fun b15 => ?_)
                    · have gc28 := (if_pos b15).symm.trans gc28
                      refine rx_bp (v := 16) (pc2 := 59) op55_57 (by decide) rfl ?_
                      refine ry_go (tgt := 72) op55_59 (by decide) (by decide) ?_
                      cases gc28
                      exact c28 _ _
                    · have gc28 := (if_neg b15).symm.trans gc28
                      refine rx_p (L2 := [some (.int a0), some (.int a1), some (.int a2), some (.int a3), some (.int x13), o11, o12]) (S2 := [.int a0]) (pc2 := 63) op55_62 rfl rfl ?_
                      refine rx_ic (v := 1) (pc2 := 64) op55_63 (by decide) rfl ?_
                      refine ry_ic_ne (tgt := 71) (pc2 := 67) op55_64 (by decide) (by decide) rfl (fun b16 => ?_) (fun b16 => ?_)
                      · have gc28 := (if_pos b16).symm.trans gc28
                        refine rx_ic (v := 4) (pc2 := 68) op55_67 (by decide) rfl ?_
                        refine ry_go (tgt := 72) op55_68 (by decide) (by decide) ?_
                        cases gc28
                        exact c28 _ _
                      · have gc28 := (if_neg b16).symm.trans gc28
                        refine rx_ic (v := 4) (pc2 := 72) op55_71 (by decide) rfl ?_
                        cases gc28
                        exact c28 _ _
                refine ry_ic_ne (tgt := 45) (pc2 := 40) op55_37 (by decide) (by decide) rfl (fun b9 => ?_) (fun b9 => ?_)
                · have gc29 := (if_pos b9).symm.trans gc29
                  refine rx_bp (v := 16) (pc2 := 42) op55_40 (by decide) rfl ?_
                  refine ry_go (tgt := 46) op55_42 (by decide) (by decide) ?_
                  cases gc29
                  exact c29 _ _ _
                · have gc29 := (if_neg b9).symm.trans gc29
                  refine rx_ic (v := 4) (pc2 := 46) op55_45 (by decide) rfl ?_
                  cases gc29
                  exact c29 _ _ _
            · have h := (if_neg b6).symm.trans h
              refine rx_p (L2 := [some (.int a0), some (.int a1), some (.int a2), some (.int a3), none, none, none]) (S2 := [.int a0]) (pc2 := 36) op55_35 rfl rfl ?_
              refine rx_ic (v := 2) (pc2 := 37) op55_36 (by decide) rfl ?_
              obtain ⟨x34, gc50, h⟩ := rq_bind h
              try dsimp only at h
              have c50 : ∀ (o31 o32 o33 : Option Value), rn_R xs d 55 46 [some (.int a0), some (.int a1), some (.int a2), some (.int a3), o31, o32, o33] [.int x34] (rn_SH, m) (some (.int rO)) (rn_SH, mO) := by
                intro o31 o32 o33
                refine rx_s (L2 := [some (.int a0), some (.int a1), some (.int a2), some (.int a3), some (.int x34), o32, o33]) (pc2 := 48) op55_46 rfl rfl rfl ?_
                refine rx_p (L2 := [some (.int a0), some (.int a1), some (.int a2), some (.int a3), some (.int x34), o32, o33]) (S2 := [.int a0]) (pc2 := 49) op55_48 rfl rfl ?_
                obtain ⟨x40, gc49, h⟩ := rq_bind h
                try dsimp only at h
                have c49 : ∀ (o38 o39 : Option Value), rn_R xs d 55 72 [some (.int a0), some (.int a1), some (.int a2), some (.int a3), some (.int x34), o38, o39] [.int x40] (rn_SH, m) (some (.int rO)) (rn_SH, mO) := by
                  intro o38 o39
                  refine rx_s (L2 := [some (.int a0), some (.int a1), some (.int a2), some (.int a3), some (.int x34), some (.int x40), o39]) (pc2 := 74) op55_72 rfl rfl rfl ?_
                  refine rx_p (L2 := [some (.int a0), some (.int a1), some (.int a2), some (.int a3), some (.int x34), some (.int x40), o39]) (S2 := [.int a0]) (pc2 := 75) op55_74 rfl rfl ?_
                  refine rx_ic (v := 3) (pc2 := 76) op55_75 (by decide) rfl ?_
                  obtain ⟨x44, gc48, h⟩ := rq_bind h
                  try dsimp only at h
                  have c48 : ∀ (o42 o43 : Option Value), rn_R xs d 55 84 [o42, some (.int a1), some (.int a2), some (.int a3), some (.int x34), some (.int x40), o43] [.int x44] (rn_SH, m) (some (.int rO)) (rn_SH, mO) := by
                    intro o42 o43
                    refine rx_s (L2 := [o42, some (.int a1), some (.int a2), some (.int a3), some (.int x34), some (.int x40), some (.int x44)]) (pc2 := 86) op55_84 rfl rfl rfl ?_
                    refine rx_p (L2 := [o42, some (.int a1), some (.int a2), some (.int a3), some (.int x34), some (.int x40), some (.int x44)]) (S2 := [.int a1]) (pc2 := 87) op55_86 rfl rfl ?_
                    refine rx_p (L2 := [o42, some (.int a1), some (.int a2), some (.int a3), some (.int x34), some (.int x40), some (.int x44)]) (S2 := [.int x34, .int a1]) (pc2 := 89) op55_87 rfl rfl ?_
                    refine ry_ic_ge (tgt := 108) (pc2 := 92) op55_89 (by decide) (by decide) rfl (fun b45 => ?_) (fun b45 => ?_)
                    · have h := (if_pos b45).symm.trans h
                      refine rx_p (L2 := [o42, some (.int a1), some (.int a2), some (.int a3), some (.int x34), some (.int x40), some (.int x44)]) (S2 := [.int a2]) (pc2 := 93) op55_92 rfl rfl ?_
                      refine rx_p (L2 := [o42, some (.int a1), some (.int a2), some (.int a3), some (.int x34), some (.int x40), some (.int x44)]) (S2 := [.int x40, .int a2]) (pc2 := 95) op55_93 rfl rfl ?_
                      refine ry_ic_ge (tgt := 108) (pc2 := 98) op55_95 (by decide) (by decide) rfl (fun b46 => ?_) (fun b46 => ?_)
                      · have h := (if_pos b46).symm.trans h
                        refine rx_p (L2 := [o42, some (.int a1), some (.int a2), some (.int a3), some (.int x34), some (.int x40), some (.int x44)]) (S2 := [.int a3]) (pc2 := 99) op55_98 rfl rfl ?_
                        refine rx_p (L2 := [o42, some (.int a1), some (.int a2), some (.int a3), some (.int x34), some (.int x40), some (.int x44)]) (S2 := [.int x44, .int a3]) (pc2 := 101) op55_99 rfl rfl ?_
                        refine ry_ic_ge (tgt := 108) (pc2 := 104) op55_101 (by decide) (by decide) rfl (fun b47 => ?_) (fun b47 => ?_)
                        · have h := (if_pos b47).symm.trans h
                          refine rx_ic (v := 1) (pc2 := 105) op55_104 (by decide) rfl ?_
                          refine ry_go (tgt := 109) op55_105 (by decide) (by decide) ?_
                          obtain ⟨rfl, rfl⟩ := rq_ret h
                          exact ry_rz (x := 1) op55_109 ms_55 rfl (by decide)
                        · have h := (if_neg b47).symm.trans h
                          refine rx_ic (v := 0) (pc2 := 109) op55_108 (by decide) rfl ?_
                          obtain ⟨rfl, rfl⟩ := rq_ret h
                          exact ry_rz (x := 0) op55_109 ms_55 rfl (by decide)
                      · have h := (if_neg b46).symm.trans h
                        refine rx_ic (v := 0) (pc2 := 109) op55_108 (by decide) rfl ?_
                        obtain ⟨rfl, rfl⟩ := rq_ret h
                        exact ry_rz (x := 0) op55_109 ms_55 rfl (by decide)
                    · have h := (if_neg b45).symm.trans h
                      refine rx_ic (v := 0) (pc2 := 109) op55_108 (by decide) rfl ?_
                      obtain ⟨rfl, rfl⟩ := rq_ret h
                      exact ry_rz (x := 0) op55_109 ms_55 rfl (by decide)
                  refine ry_ic_ne (tgt := 83) (pc2 := 79) op55_76 (by decide) (by decide) rfl (fun b41 => ?_) (fun b41 => ?_)
                  · have gc48 := (if_pos b41).symm.trans gc48
                    refine rx_ic (v := 4) (pc2 := 80) op55_79 (by decide) rfl ?_
                    refine ry_go (tgt := 84) op55_80 (by decide) (by decide) ?_
                    cases gc48
                    exact c48 _ _
                  · have gc48 := (if_neg b41).symm.trans gc48
                    refine rx_ic (v := 1) (pc2 := 84) op55_83 (by decide) rfl ?_
                    cases gc48
                    exact c48 _ _
                refine ry_if_eq (tgt := 57) (pc2 := 52) op55_49 (by decide) (by decide) rfl (fun b35 => ?_) (fun b35 => ?_)
                · have gc49 := (if_pos b35).symm.trans gc49
                  refine rx_bp (v := 16) (pc2 := 59) op55_57 (by decide) rfl ?_
                  refine ry_go (tgt := 72) op55_59 (by decide) (by decide) ?_
                  cases gc49
                  exact c49 _ _
                · have gc49 := (if_neg b35).symm.trans gc49
                  refine rx_p (L2 := [some (.int a0), some (.int a1), some (.int a2), some (.int a3), some (.int x34), o32, o33]) (S2 := [.int a0]) (pc2 := 53) op55_52 rfl rfl ?_
                  refine rx_ic (v := 2) (pc2 := 54) op55_53 (by decide) rfl ?_
                  refine ry_ic_ne (tgt := 62) (pc2 := 57) op55_54 (by decide) (by decide) rfl (fun b36 => ?_) (fun b36 => ?_)
                  · have gc49 := (if_pos b36).symm.trans gc49
                    refine rx_bp (v := 16) (pc2 := 59) op55_57 (by decide) rfl ?_
                    refine ry_go (tgt := 72) op55_59 (by decide) (by decide) ?_
                    cases gc49
                    exact c49 _ _
                  · have gc49 := (if_neg b36).symm.trans gc49
                    refine rx_p (L2 := [some (.int a0), some (.int a1), some (.int a2), some (.int a3), some (.int x34), o32, o33]) (S2 := [.int a0]) (pc2 := 63) op55_62 rfl rfl ?_
                    refine rx_ic (v := 1) (pc2 := 64) op55_63 (by decide) rfl ?_
                    refine ry_ic_ne (tgt := 71) (pc2 := 67) op55_64 (by decide) (by decide) rfl (fun b37 => ?_) (fun b37 => ?_)
                    · have gc49 := (if_pos b37).symm.trans gc49
                      refine rx_ic (v := 4) (pc2 := 68) op55_67 (by decide) rfl ?_
                      refine ry_go (tgt := 72) op55_68 (by decide) (by decide) ?_
                      cases gc49
                      exact c49 _ _
                    · have gc49 := (if_neg b37).symm.trans gc49
                      refine rx_ic (v := 4) (pc2 := 72) op55_71 (by decide) rfl ?_
                      cases gc49
                      exact c49 _ _
              refine ry_ic_ne (tgt := 45) (pc2 := 40) op55_37 (by decide) (by decide) rfl (fun b30 => ?_) (fun b30 => ?_)
              · have gc50 := (if_pos b30).symm.trans gc50
                refine rx_bp (v := 16) (pc2 := 42) op55_40 (by decide) rfl ?_
                refine ry_go (tgt := 46) op55_42 (by decide) (by decide) ?_
                cases gc50
                exact c50 _ _ _
              · have gc50 := (if_neg b30).symm.trans gc50
                refine rx_ic (v := 4) (pc2 := 46) op55_45 (by decide) rfl ?_
                cases gc50
                exact c50 _ _ _
/-! cl_fits -/
theorem op56_0 : rn_op 56 0 = some (.iload_n 1, 1, 0, 0, 0) := by decide +kernel
theorem op56_1 : rn_op 56 1 = some (.tableswitch 93 0 2 #[27, 49, 71], 27, 0, 0, 0) := by decide +kernel
theorem op56_28 : rn_op 56 28 = some (.iload_n 2, 1, 0, 0, 0) := by decide +kernel
theorem op56_29 : rn_op 56 29 = some (.aload_n 0, 1, 0, 0, 0) := by decide +kernel
theorem op56_30 : rn_op 56 30 = some (.getfield 24, 3, 1, 1, 0) := by decide +kernel
theorem op56_33 : rn_op 56 33 = some (.if_icmp .ge 15, 3, 0, 0, 0) := by decide +kernel
theorem op56_36 : rn_op 56 36 = some (.aload_n 0, 1, 0, 0, 0) := by decide +kernel
theorem op56_37 : rn_op 56 37 = some (.iload_n 3, 1, 0, 0, 0) := by decide +kernel
theorem op56_38 : rn_op 56 38 = some (.invokevirtual 30, 3, 50, 2, 1) := by decide +kernel
theorem op56_41 : rn_op 56 41 = some (.ifCond .eq 7, 3, 0, 0, 0) := by decide +kernel
theorem op56_44 : rn_op 56 44 = some (.iconst 1, 1, 0, 0, 0) := by decide +kernel
theorem op56_45 : rn_op 56 45 = some (.goto 4, 3, 0, 0, 0) := by decide +kernel
theorem op56_48 : rn_op 56 48 = some (.iconst 0, 1, 0, 0, 0) := by decide +kernel
theorem op56_49 : rn_op 56 49 = some (.ireturn, 1, 0, 0, 0) := by decide +kernel
theorem op56_50 : rn_op 56 50 = some (.iload_n 2, 1, 0, 0, 0) := by decide +kernel
theorem op56_51 : rn_op 56 51 = some (.aload_n 0, 1, 0, 0, 0) := by decide +kernel
theorem op56_52 : rn_op 56 52 = some (.getfield 24, 3, 1, 1, 0) := by decide +kernel
theorem op56_55 : rn_op 56 55 = some (.if_icmp .ge 15, 3, 0, 0, 0) := by decide +kernel
theorem op56_58 : rn_op 56 58 = some (.iload_n 3, 1, 0, 0, 0) := by decide +kernel
theorem op56_59 : rn_op 56 59 = some (.aload_n 0, 1, 0, 0, 0) := by decide +kernel
theorem op56_60 : rn_op 56 60 = some (.getfield 34, 3, 1, 2, 0) := by decide +kernel
theorem op56_63 : rn_op 56 63 = some (.if_icmp .ge 7, 3, 0, 0, 0) := by decide +kernel
theorem op56_66 : rn_op 56 66 = some (.iconst 1, 1, 0, 0, 0) := by decide +kernel
theorem op56_67 : rn_op 56 67 = some (.goto 4, 3, 0, 0, 0) := by decide +kernel
theorem op56_70 : rn_op 56 70 = some (.iconst 0, 1, 0, 0, 0) := by decide +kernel
theorem op56_71 : rn_op 56 71 = some (.ireturn, 1, 0, 0, 0) := by decide +kernel
theorem op56_72 : rn_op 56 72 = some (.aload_n 0, 1, 0, 0, 0) := by decide +kernel
theorem op56_73 : rn_op 56 73 = some (.iload_n 2, 1, 0, 0, 0) := by decide +kernel
theorem op56_74 : rn_op 56 74 = some (.invokevirtual 30, 3, 50, 2, 1) := by decide +kernel
theorem op56_77 : rn_op 56 77 = some (.ifCond .eq 15, 3, 0, 0, 0) := by decide +kernel
theorem op56_80 : rn_op 56 80 = some (.aload_n 0, 1, 0, 0, 0) := by decide +kernel
theorem op56_81 : rn_op 56 81 = some (.iload_n 3, 1, 0, 0, 0) := by decide +kernel
theorem op56_82 : rn_op 56 82 = some (.invokevirtual 30, 3, 50, 2, 1) := by decide +kernel
theorem op56_85 : rn_op 56 85 = some (.ifCond .eq 7, 3, 0, 0, 0) := by decide +kernel
theorem op56_88 : rn_op 56 88 = some (.iconst 1, 1, 0, 0, 0) := by decide +kernel
theorem op56_89 : rn_op 56 89 = some (.goto 4, 3, 0, 0, 0) := by decide +kernel
theorem op56_92 : rn_op 56 92 = some (.iconst 0, 1, 0, 0, 0) := by decide +kernel
theorem op56_93 : rn_op 56 93 = some (.ireturn, 1, 0, 0, 0) := by decide +kernel
theorem op56_94 : rn_op 56 94 = some (.iload_n 2, 1, 0, 0, 0) := by decide +kernel
theorem op56_95 : rn_op 56 95 = some (.aload_n 0, 1, 0, 0, 0) := by decide +kernel
theorem op56_96 : rn_op 56 96 = some (.getfield 24, 3, 1, 1, 0) := by decide +kernel
theorem op56_99 : rn_op 56 99 = some (.if_icmp .ge 16, 3, 0, 0, 0) := by decide +kernel
theorem op56_102 : rn_op 56 102 = some (.iload 4, 2, 0, 0, 0) := by decide +kernel
theorem op56_104 : rn_op 56 104 = some (.aload_n 0, 1, 0, 0, 0) := by decide +kernel
theorem op56_105 : rn_op 56 105 = some (.getfield 34, 3, 1, 2, 0) := by decide +kernel
theorem op56_108 : rn_op 56 108 = some (.if_icmp .ge 7, 3, 0, 0, 0) := by decide +kernel
theorem op56_111 : rn_op 56 111 = some (.iconst 1, 1, 0, 0, 0) := by decide +kernel
theorem op56_112 : rn_op 56 112 = some (.goto 4, 3, 0, 0, 0) := by decide +kernel
theorem op56_115 : rn_op 56 115 = some (.iconst 0, 1, 0, 0, 0) := by decide +kernel
theorem op56_116 : rn_op 56 116 = some (.ireturn, 1, 0, 0, 0) := by decide +kernel
def cl_fits (n : Nat) (q0 : Nat) (a1 : Int32) (a2 : Int32) (a3 : Int32) (a4 : Int32) (m : rn_Mem) : Option (Int32 × rn_Mem) :=
  if a1 = 0 then
    if a2 < (m.1 q0 1) then
      (ga_has n q0 a3 m).bind fun (r18, m17) =>
      if r18 = 0 then
        some (0, m17)
      else
        some (1, m17)
    else
      some (0, m)
  else if a1 = 1 then
    if a2 < (m.1 q0 1) then
      if a3 < (m.1 q0 2) then
        some (1, m)
      else
        some (0, m)
    else
      some (0, m)
  else if a1 = 2 then
    (ga_has n q0 a2 m).bind fun (r24, m23) =>
    if r24 = 0 then
      some (0, m23)
    else
      (ga_has n q0 a3 m23).bind fun (r28, m27) =>
      if r28 = 0 then
        some (0, m27)
      else
        some (1, m27)
  else 
    if a2 < (m.1 q0 1) then
      if a4 < (m.1 q0 2) then
        some (1, m)
      else
        some (0, m)
    else
      some (0, m)
set_option maxHeartbeats 4000000 in
set_option maxRecDepth 20000 in
theorem cl_fits_ok (xs : List Int32) {d : Nat} (hd : 1 ≤ d) {n : Nat} {q0 : Nat} {a1 : Int32} {a2 : Int32} {a3 : Int32} {a4 : Int32} {m mO : rn_Mem} {rO : Int32} (hq0 : sA_Game q0) (h : cl_fits n q0 a1 a2 a3 a4 m = some (rO, mO)) : rn_R xs d 56 0 (rn_ent 5 [.ref q0, .int a1, .int a2, .int a3, .int a4]) [] (rn_SH, m) (some (.int rO)) (rn_SH, mO) := by
  obtain ⟨d, rfl⟩ : ∃ e, d = e + 1 := ⟨d - 1, by omega⟩
  unfold cl_fits at h
  show rn_R xs (d + 1) 56 0 [some (.ref q0), some (.int a1), some (.int a2), some (.int a3), some (.int a4)] [] (rn_SH, m) (some (.int rO)) (rn_SH, mO)
  refine rx_p (L2 := [some (.ref q0), some (.int a1), some (.int a2), some (.int a3), some (.int a4)]) (S2 := [.int a1]) (pc2 := 1) op56_0 rfl rfl ?_
  by_cases b1 : a1 = 0
  · have h := (if_pos b1).symm.trans h
    refine ry_ti (w := 0) (off := 27) (tgt := 28) op56_1 (by rw [b1] <;> decide) (by decide) (by decide) (by decide) (by decide) ?_
    refine rx_p (L2 := [some (.ref q0), some (.int a1), some (.int a2), some (.int a3), some (.int a4)]) (S2 := [.int a2]) (pc2 := 29) op56_28 rfl rfl ?_
    refine rx_p (L2 := [some (.ref q0), some (.int a1), some (.int a2), some (.int a3), some (.int a4)]) (S2 := [.ref q0, .int a2]) (pc2 := 30) op56_29 rfl rfl ?_
    refine rx_gf (v := .int (m.1 q0 1)) (pc2 := 33) op56_30 hq0 rfl rfl rfl ?_
    refine ry_ic_ge (tgt := 48) (pc2 := 36) op56_33 (by decide) (by decide) rfl (fun b16 => ?_) (fun b16 => ?_)
    · have h := (if_pos b16).symm.trans h
      refine rx_p (L2 := [some (.ref q0), some (.int a1), some (.int a2), some (.int a3), some (.int a4)]) (S2 := [.ref q0]) (pc2 := 37) op56_36 rfl rfl ?_
      refine rx_p (L2 := [some (.ref q0), some (.int a1), some (.int a2), some (.int a3), some (.int a4)]) (S2 := [.int a3, .ref q0]) (pc2 := 38) op56_37 rfl rfl ?_
      obtain ⟨⟨r18, m17⟩, f19, h⟩ := rq_bind h
      try dsimp only at h
      refine ry_iv (p := q0) (vs := [.int a3]) (T := []) (pc2 := 41) op56_38 ms_50 (by decide) rfl rfl (Nat.le_of_ble_eq_true rfl) (Nat.le_of_ble_eq_true rfl) hq0 (ga_has_ok xs (by omega) hq0 f19) rfl ?_
      show rn_R _ _ _ _ _ [.int r18] _ _ _
      refine ry_if_eq (tgt := 48) (pc2 := 44) op56_41 (by decide) (by decide) rfl (fun b20 => ?_) (fun b20 => ?_)
      · have h := (if_pos b20).symm.trans h
        refine rx_ic (v := 0) (pc2 := 49) op56_48 (by decide) rfl ?_
        obtain ⟨rfl, rfl⟩ := rq_ret h
        exact ry_rz (x := 0) op56_49 ms_56 rfl (by decide)
      · have h := (if_neg b20).symm.trans h
        refine rx_ic (v := 1) (pc2 := 45) op56_44 (by decide) rfl ?_
        refine ry_go (tgt := 49) op56_45 (by decide) (by decide) ?_
        obtain ⟨rfl, rfl⟩ := rq_ret h
        exact ry_rz (x := 1) op56_49 ms_56 rfl (by decide)
    · have h := (if_neg b16).symm.trans h
      refine rx_ic (v := 0) (pc2 := 49) op56_48 (by decide) rfl ?_
      obtain ⟨rfl, rfl⟩ := rq_ret h
      exact ry_rz (x := 0) op56_49 ms_56 rfl (by decide)
  have h := (if_neg b1).symm.trans h
  by_cases b2 : a1 = 1
  · have h := (if_pos b2).symm.trans h
    refine ry_ti (w := 1) (off := 49) (tgt := 50) op56_1 (by rw [b2] <;> decide) (by decide) (by decide) (by decide) (by decide) ?_
    refine rx_p (L2 := [some (.ref q0), some (.int a1), some (.int a2), some (.int a3), some (.int a4)]) (S2 := [.int a2]) (pc2 := 51) op56_50 rfl rfl ?_
    refine rx_p (L2 := [some (.ref q0), some (.int a1), some (.int a2), some (.int a3), some (.int a4)]) (S2 := [.ref q0, .int a2]) (pc2 := 52) op56_51 rfl rfl ?_
    refine rx_gf (v := .int (m.1 q0 1)) (pc2 := 55) op56_52 hq0 rfl rfl rfl ?_
    refine ry_ic_ge (tgt := 70) (pc2 := 58) op56_55 (by decide) (by decide) rfl (fun b21 => ?_) (fun b21 => ?_)
    · have h := (if_pos b21).symm.trans h
      refine rx_p (L2 := [some (.ref q0), some (.int a1), some (.int a2), some (.int a3), some (.int a4)]) (S2 := [.int a3]) (pc2 := 59) op56_58 rfl rfl ?_
      refine rx_p (L2 := [some (.ref q0), some (.int a1), some (.int a2), some (.int a3), some (.int a4)]) (S2 := [.ref q0, .int a3]) (pc2 := 60) op56_59 rfl rfl ?_
      refine rx_gf (v := .int (m.1 q0 2)) (pc2 := 63) op56_60 hq0 rfl rfl rfl ?_
      refine ry_ic_ge (tgt := 70) (pc2 := 66) op56_63 (by decide) (by decide) rfl (fun b22 => ?_) (fun b22 => ?_)
      · have h := (if_pos b22).symm.trans h
        refine rx_ic (v := 1) (pc2 := 67) op56_66 (by decide) rfl ?_
        refine ry_go (tgt := 71) op56_67 (by decide) (by decide) ?_
        obtain ⟨rfl, rfl⟩ := rq_ret h
        exact ry_rz (x := 1) op56_71 ms_56 rfl (by decide)
      · have h := (if_neg b22).symm.trans h
        refine rx_ic (v := 0) (pc2 := 71) op56_70 (by decide) rfl ?_
        obtain ⟨rfl, rfl⟩ := rq_ret h
        exact ry_rz (x := 0) op56_71 ms_56 rfl (by decide)
    · have h := (if_neg b21).symm.trans h
      refine rx_ic (v := 0) (pc2 := 71) op56_70 (by decide) rfl ?_
      obtain ⟨rfl, rfl⟩ := rq_ret h
      exact ry_rz (x := 0) op56_71 ms_56 rfl (by decide)
  have h := (if_neg b2).symm.trans h
  by_cases b3 : a1 = 2
  · have h := (if_pos b3).symm.trans h
    refine ry_ti (w := 2) (off := 71) (tgt := 72) op56_1 (by rw [b3] <;> decide) (by decide) (by decide) (by decide) (by decide) ?_
    refine rx_p (L2 := [some (.ref q0), some (.int a1), some (.int a2), some (.int a3), some (.int a4)]) (S2 := [.ref q0]) (pc2 := 73) op56_72 rfl rfl ?_
    refine rx_p (L2 := [some (.ref q0), some (.int a1), some (.int a2), some (.int a3), some (.int a4)]) (S2 := [.int a2, .ref q0]) (pc2 := 74) op56_73 rfl rfl ?_
    obtain ⟨⟨r24, m23⟩, f25, h⟩ := rq_bind h
    try dsimp only at h
    refine ry_iv (p := q0) (vs := [.int a2]) (T := []) (pc2 := 77) op56_74 ms_50 (by decide) rfl rfl (Nat.le_of_ble_eq_true rfl) (Nat.le_of_ble_eq_true rfl) hq0 (ga_has_ok xs (by omega) hq0 f25) rfl ?_
    show rn_R _ _ _ _ _ [.int r24] _ _ _
    refine ry_if_eq (tgt := 92) (pc2 := 80) op56_77 (by decide) (by decide) rfl (fun b26 => ?_) (fun b26 => ?_)
    · have h := (if_pos b26).symm.trans h
      refine rx_ic (v := 0) (pc2 := 93) op56_92 (by decide) rfl ?_
      obtain ⟨rfl, rfl⟩ := rq_ret h
      exact ry_rz (x := 0) op56_93 ms_56 rfl (by decide)
    · have h := (if_neg b26).symm.trans h
      refine rx_p (L2 := [some (.ref q0), some (.int a1), some (.int a2), some (.int a3), some (.int a4)]) (S2 := [.ref q0]) (pc2 := 81) op56_80 rfl rfl ?_
      refine rx_p (L2 := [some (.ref q0), some (.int a1), some (.int a2), some (.int a3), some (.int a4)]) (S2 := [.int a3, .ref q0]) (pc2 := 82) op56_81 rfl rfl ?_
      obtain ⟨⟨r28, m27⟩, f29, h⟩ := rq_bind h
      try dsimp only at h
      refine ry_iv (p := q0) (vs := [.int a3]) (T := []) (pc2 := 85) op56_82 ms_50 (by decide) rfl rfl (Nat.le_of_ble_eq_true rfl) (Nat.le_of_ble_eq_true rfl) hq0 (ga_has_ok xs (by omega) hq0 f29) rfl ?_
      show rn_R _ _ _ _ _ [.int r28] _ _ _
      refine ry_if_eq (tgt := 92) (pc2 := 88) op56_85 (by decide) (by decide) rfl (fun b30 => ?_) (fun b30 => ?_)
      · have h := (if_pos b30).symm.trans h
        refine rx_ic (v := 0) (pc2 := 93) op56_92 (by decide) rfl ?_
        obtain ⟨rfl, rfl⟩ := rq_ret h
        exact ry_rz (x := 0) op56_93 ms_56 rfl (by decide)
      · have h := (if_neg b30).symm.trans h
        refine rx_ic (v := 1) (pc2 := 89) op56_88 (by decide) rfl ?_
        refine ry_go (tgt := 93) op56_89 (by decide) (by decide) ?_
        obtain ⟨rfl, rfl⟩ := rq_ret h
        exact ry_rz (x := 1) op56_93 ms_56 rfl (by decide)
  have h := (if_neg b3).symm.trans h
  have tb1 := rq_nt 0 (by decide) b1
  have tb2 := rq_nt 1 (by decide) b2
  have tb3 := rq_nt 2 (by decide) b3
  refine ry_to (tgt := 94) op56_1 (by omega) (by decide) (by decide) ?_
  refine rx_p (L2 := [some (.ref q0), some (.int a1), some (.int a2), some (.int a3), some (.int a4)]) (S2 := [.int a2]) (pc2 := 95) op56_94 rfl rfl ?_
  refine rx_p (L2 := [some (.ref q0), some (.int a1), some (.int a2), some (.int a3), some (.int a4)]) (S2 := [.ref q0, .int a2]) (pc2 := 96) op56_95 rfl rfl ?_
  refine rx_gf (v := .int (m.1 q0 1)) (pc2 := 99) op56_96 hq0 rfl rfl rfl ?_
  refine ry_ic_ge (tgt := 115) (pc2 := 102) op56_99 (by decide) (by decide) rfl (fun b31 => ?_) (fun b31 => ?_)
  · have h := (if_pos b31).symm.trans h
    refine rx_p (L2 := [some (.ref q0), some (.int a1), some (.int a2), some (.int a3), some (.int a4)]) (S2 := [.int a4]) (pc2 := 104) op56_102 rfl rfl ?_
    refine rx_p (L2 := [some (.ref q0), some (.int a1), some (.int a2), some (.int a3), some (.int a4)]) (S2 := [.ref q0, .int a4]) (pc2 := 105) op56_104 rfl rfl ?_
    refine rx_gf (v := .int (m.1 q0 2)) (pc2 := 108) op56_105 hq0 rfl rfl rfl ?_
    refine ry_ic_ge (tgt := 115) (pc2 := 111) op56_108 (by decide) (by decide) rfl (fun b32 => ?_) (fun b32 => ?_)
    · have h := (if_pos b32).symm.trans h
      refine rx_ic (v := 1) (pc2 := 112) op56_111 (by decide) rfl ?_
      refine ry_go (tgt := 116) op56_112 (by decide) (by decide) ?_
      obtain ⟨rfl, rfl⟩ := rq_ret h
      exact ry_rz (x := 1) op56_116 ms_56 rfl (by decide)
    · have h := (if_neg b32).symm.trans h
      refine rx_ic (v := 0) (pc2 := 116) op56_115 (by decide) rfl ?_
      obtain ⟨rfl, rfl⟩ := rq_ret h
      exact ry_rz (x := 0) op56_116 ms_56 rfl (by decide)
  · have h := (if_neg b31).symm.trans h
    refine rx_ic (v := 0) (pc2 := 116) op56_115 (by decide) rfl ?_
    obtain ⟨rfl, rfl⟩ := rq_ret h
    exact ry_rz (x := 0) op56_116 ms_56 rfl (by decide)
/-! cl_add -/
theorem op57_0 : rn_op 57 0 = some (.aload_n 0, 1, 0, 0, 0) := by decide +kernel
theorem op57_1 : rn_op 57 1 = some (.getfield 37, 3, 0, 0, 0) := by decide +kernel
theorem op57_4 : rn_op 57 4 = some (.istore 5, 2, 0, 0, 0) := by decide +kernel
theorem op57_6 : rn_op 57 6 = some (.iload 5, 2, 0, 0, 0) := by decide +kernel
theorem op57_8 : rn_op 57 8 = some (.bipush 6, 2, 0, 0, 0) := by decide +kernel
theorem op57_10 : rn_op 57 10 = some (.if_icmp .ge 46, 3, 0, 0, 0) := by decide +kernel
theorem op57_13 : rn_op 57 13 = some (.aload_n 0, 1, 0, 0, 0) := by decide +kernel
theorem op57_14 : rn_op 57 14 = some (.getfield 9, 3, 0, 1, 3) := by decide +kernel
theorem op57_17 : rn_op 57 17 = some (.iload 5, 2, 0, 0, 0) := by decide +kernel
theorem op57_19 : rn_op 57 19 = some (.iload_n 1, 1, 0, 0, 0) := by decide +kernel
theorem op57_20 : rn_op 57 20 = some (.iastore, 1, 0, 0, 0) := by decide +kernel
theorem op57_21 : rn_op 57 21 = some (.aload_n 0, 1, 0, 0, 0) := by decide +kernel
theorem op57_22 : rn_op 57 22 = some (.getfield 15, 3, 0, 2, 3) := by decide +kernel
theorem op57_25 : rn_op 57 25 = some (.iload 5, 2, 0, 0, 0) := by decide +kernel
theorem op57_27 : rn_op 57 27 = some (.iload_n 2, 1, 0, 0, 0) := by decide +kernel
theorem op57_28 : rn_op 57 28 = some (.iastore, 1, 0, 0, 0) := by decide +kernel
theorem op57_29 : rn_op 57 29 = some (.aload_n 0, 1, 0, 0, 0) := by decide +kernel
theorem op57_30 : rn_op 57 30 = some (.getfield 18, 3, 0, 3, 3) := by decide +kernel
theorem op57_33 : rn_op 57 33 = some (.iload 5, 2, 0, 0, 0) := by decide +kernel
theorem op57_35 : rn_op 57 35 = some (.iload_n 3, 1, 0, 0, 0) := by decide +kernel
theorem op57_36 : rn_op 57 36 = some (.iastore, 1, 0, 0, 0) := by decide +kernel
theorem op57_37 : rn_op 57 37 = some (.aload_n 0, 1, 0, 0, 0) := by decide +kernel
theorem op57_38 : rn_op 57 38 = some (.getfield 21, 3, 0, 4, 3) := by decide +kernel
theorem op57_41 : rn_op 57 41 = some (.iload 5, 2, 0, 0, 0) := by decide +kernel
theorem op57_43 : rn_op 57 43 = some (.iload 4, 2, 0, 0, 0) := by decide +kernel
theorem op57_45 : rn_op 57 45 = some (.iastore, 1, 0, 0, 0) := by decide +kernel
theorem op57_46 : rn_op 57 46 = some (.aload_n 0, 1, 0, 0, 0) := by decide +kernel
theorem op57_47 : rn_op 57 47 = some (.dup, 1, 0, 0, 0) := by decide +kernel
theorem op57_48 : rn_op 57 48 = some (.getfield 37, 3, 0, 0, 0) := by decide +kernel
theorem op57_51 : rn_op 57 51 = some (.iconst 1, 1, 0, 0, 0) := by decide +kernel
theorem op57_52 : rn_op 57 52 = some (.iadd, 1, 0, 0, 0) := by decide +kernel
theorem op57_53 : rn_op 57 53 = some (.putfield 37, 3, 0, 0, 0) := by decide +kernel
theorem op57_56 : rn_op 57 56 = some (.iload 5, 2, 0, 0, 0) := by decide +kernel
theorem op57_58 : rn_op 57 58 = some (.ireturn, 1, 0, 0, 0) := by decide +kernel
def cl_add (n : Nat) (q0 : Nat) (a1 : Int32) (a2 : Int32) (a3 : Int32) (a4 : Int32) (m : rn_Mem) : Option (Int32 × rn_Mem) :=
  (some (m.1 q0 0)).bind fun (x1 : Int32) =>
  if x1 < 6 then
    if rn_in x1 6 = true then
      (some (rm_i m (q0 + 1) x1.toNatClampNeg a1)).bind fun (m3 : rn_Mem) =>
      if rn_in x1 6 = true then
        (some (rm_i m3 (q0 + 2) x1.toNatClampNeg a2)).bind fun (m5 : rn_Mem) =>
        if rn_in x1 6 = true then
          (some (rm_i m5 (q0 + 3) x1.toNatClampNeg a3)).bind fun (m7 : rn_Mem) =>
          if rn_in x1 6 = true then
            (some (rm_i m7 (q0 + 4) x1.toNatClampNeg a4)).bind fun (m9 : rn_Mem) =>
            (some (rm_i m9 q0 0 ((m9.1 q0 0) + 1))).bind fun (m11 : rn_Mem) =>
            some (x1, m11)
          else none
        else none
      else none
    else none
  else
    some (x1, m)
set_option maxHeartbeats 4000000 in
set_option maxRecDepth 20000 in
theorem cl_add_ok (xs : List Int32) {d : Nat} (hd : 0 ≤ d) {n : Nat} {q0 : Nat} {a1 : Int32} {a2 : Int32} {a3 : Int32} {a4 : Int32} {m mO : rn_Mem} {rO : Int32} (hq0 : sA_Clues q0) (h : cl_add n q0 a1 a2 a3 a4 m = some (rO, mO)) : rn_R xs d 57 0 (rn_ent 6 [.ref q0, .int a1, .int a2, .int a3, .int a4]) [] (rn_SH, m) (some (.int rO)) (rn_SH, mO) := by
  unfold cl_add at h
  show rn_R xs d 57 0 [some (.ref q0), some (.int a1), some (.int a2), some (.int a3), some (.int a4), none] [] (rn_SH, m) (some (.int rO)) (rn_SH, mO)
  refine rx_p (L2 := [some (.ref q0), some (.int a1), some (.int a2), some (.int a3), some (.int a4), none]) (S2 := [.ref q0]) (pc2 := 1) op57_0 rfl rfl ?_
  refine rx_gf (v := .int (m.1 q0 0)) (pc2 := 4) op57_1 (hq0.1) rfl rfl rfl ?_
  obtain ⟨x1, ex1, h⟩ := rq_bv h
  refine rx_s (v := x1) (L2 := [some (.ref q0), some (.int a1), some (.int a2), some (.int a3), some (.int a4), some (.int x1)]) (pc2 := 6) op57_4 ex1 rfl rfl ?_
  refine rx_p (L2 := [some (.ref q0), some (.int a1), some (.int a2), some (.int a3), some (.int a4), some (.int x1)]) (S2 := [.int x1]) (pc2 := 8) op57_6 rfl rfl ?_
  refine rx_bp (v := 6) (pc2 := 10) op57_8 (by decide) rfl ?_
  refine ry_ic_ge (tgt := 56) (pc2 := 13) op57_10 (by decide) (by decide) rfl (fun b2 => ?_) (fun b2 => ?_)
  · have h := (if_pos b2).symm.trans h
    refine rx_p (L2 := [some (.ref q0), some (.int a1), some (.int a2), some (.int a3), some (.int a4), some (.int x1)]) (S2 := [.ref q0]) (pc2 := 14) op57_13 rfl rfl ?_
    refine rx_gf (v := .ref (q0 + 1)) (pc2 := 17) op57_14 (hq0.1) rfl rfl rfl ?_
    refine rx_p (L2 := [some (.ref q0), some (.int a1), some (.int a2), some (.int a3), some (.int a4), some (.int x1)]) (S2 := [.int x1, .ref (q0 + 1)]) (pc2 := 19) op57_17 rfl rfl ?_
    refine rx_p (L2 := [some (.ref q0), some (.int a1), some (.int a2), some (.int a3), some (.int a4), some (.int x1)]) (S2 := [.int a1, .int x1, .ref (q0 + 1)]) (pc2 := 20) op57_19 rfl rfl ?_
    obtain ⟨k4, h⟩ := rq_chk h
    obtain ⟨m3, em3, h⟩ := rq_bv h
    refine rx_is (m2 := m3) (pc2 := 21) op57_20 (hq0.2.1) k4 rfl em3 rfl ?_
    refine rx_p (L2 := [some (.ref q0), some (.int a1), some (.int a2), some (.int a3), some (.int a4), some (.int x1)]) (S2 := [.ref q0]) (pc2 := 22) op57_21 rfl rfl ?_
    refine rx_gf (v := .ref (q0 + 2)) (pc2 := 25) op57_22 (hq0.1) rfl rfl rfl ?_
    refine rx_p (L2 := [some (.ref q0), some (.int a1), some (.int a2), some (.int a3), some (.int a4), some (.int x1)]) (S2 := [.int x1, .ref (q0 + 2)]) (pc2 := 27) op57_25 rfl rfl ?_
    refine rx_p (L2 := [some (.ref q0), some (.int a1), some (.int a2), some (.int a3), some (.int a4), some (.int x1)]) (S2 := [.int a2, .int x1, .ref (q0 + 2)]) (pc2 := 28) op57_27 rfl rfl ?_
    obtain ⟨k6, h⟩ := rq_chk h
    obtain ⟨m5, em5, h⟩ := rq_bv h
    refine rx_is (m2 := m5) (pc2 := 29) op57_28 (hq0.2.2.1) k6 rfl em5 rfl ?_
    refine rx_p (L2 := [some (.ref q0), some (.int a1), some (.int a2), some (.int a3), some (.int a4), some (.int x1)]) (S2 := [.ref q0]) (pc2 := 30) op57_29 rfl rfl ?_
    refine rx_gf (v := .ref (q0 + 3)) (pc2 := 33) op57_30 (hq0.1) rfl rfl rfl ?_
    refine rx_p (L2 := [some (.ref q0), some (.int a1), some (.int a2), some (.int a3), some (.int a4), some (.int x1)]) (S2 := [.int x1, .ref (q0 + 3)]) (pc2 := 35) op57_33 rfl rfl ?_
    refine rx_p (L2 := [some (.ref q0), some (.int a1), some (.int a2), some (.int a3), some (.int a4), some (.int x1)]) (S2 := [.int a3, .int x1, .ref (q0 + 3)]) (pc2 := 36) op57_35 rfl rfl ?_
    obtain ⟨k8, h⟩ := rq_chk h
    obtain ⟨m7, em7, h⟩ := rq_bv h
    refine rx_is (m2 := m7) (pc2 := 37) op57_36 (hq0.2.2.2.1) k8 rfl em7 rfl ?_
    refine rx_p (L2 := [some (.ref q0), some (.int a1), some (.int a2), some (.int a3), some (.int a4), some (.int x1)]) (S2 := [.ref q0]) (pc2 := 38) op57_37 rfl rfl ?_
    refine rx_gf (v := .ref (q0 + 4)) (pc2 := 41) op57_38 (hq0.1) rfl rfl rfl ?_
    refine rx_p (L2 := [some (.ref q0), some (.int a1), some (.int a2), some (.int a3), some (.int a4), some (.int x1)]) (S2 := [.int x1, .ref (q0 + 4)]) (pc2 := 43) op57_41 rfl rfl ?_
    refine rx_p (L2 := [some (.ref q0), some (.int a1), some (.int a2), some (.int a3), some (.int a4), some (.int x1)]) (S2 := [.int a4, .int x1, .ref (q0 + 4)]) (pc2 := 45) op57_43 rfl rfl ?_
    obtain ⟨k10, h⟩ := rq_chk h
    obtain ⟨m9, em9, h⟩ := rq_bv h
    refine rx_is (m2 := m9) (pc2 := 46) op57_45 (hq0.2.2.2.2) k10 rfl em9 rfl ?_
    refine rx_p (L2 := [some (.ref q0), some (.int a1), some (.int a2), some (.int a3), some (.int a4), some (.int x1)]) (S2 := [.ref q0]) (pc2 := 47) op57_46 rfl rfl ?_
    refine rx_p (L2 := [some (.ref q0), some (.int a1), some (.int a2), some (.int a3), some (.int a4), some (.int x1)]) (S2 := [.ref q0, .ref q0]) (pc2 := 48) op57_47 rfl rfl ?_
    refine rx_gf (v := .int (m9.1 q0 0)) (pc2 := 51) op57_48 (hq0.1) rfl rfl rfl ?_
    refine rx_ic (v := 1) (pc2 := 52) op57_51 (by decide) rfl ?_
    refine rx_p (L2 := [some (.ref q0), some (.int a1), some (.int a2), some (.int a3), some (.int a4), some (.int x1)]) (S2 := [.int ((m9.1 q0 0) + 1), .ref q0]) (pc2 := 53) op57_52 rfl rfl ?_
    obtain ⟨m11, em11, h⟩ := rq_bv h
    refine rx_pf (m2 := m11) (pc2 := 56) op57_53 (hq0.1) rfl em11 rfl ?_
    refine rx_p (L2 := [some (.ref q0), some (.int a1), some (.int a2), some (.int a3), some (.int a4), some (.int x1)]) (S2 := [.int x1]) (pc2 := 58) op57_56 rfl rfl ?_
    obtain ⟨rfl, rfl⟩ := rq_ret h
    exact ry_ri op57_58 ms_57 rfl
  · have h := (if_neg b2).symm.trans h
    refine rx_p (L2 := [some (.ref q0), some (.int a1), some (.int a2), some (.int a3), some (.int a4), some (.int x1)]) (S2 := [.int x1]) (pc2 := 58) op57_56 rfl rfl ?_
    obtain ⟨rfl, rfl⟩ := rq_ret h
    exact ry_ri op57_58 ms_57 rfl
/-! lt_clue -/
theorem op54_0 : rn_op 54 0 = some (.iload_n 1, 1, 0, 0, 0) := by decide +kernel
theorem op54_1 : rn_op 54 1 = some (.iload_n 2, 1, 0, 0, 0) := by decide +kernel
theorem op54_2 : rn_op 54 2 = some (.iload_n 3, 1, 0, 0, 0) := by decide +kernel
theorem op54_3 : rn_op 54 3 = some (.iload 4, 2, 0, 0, 0) := by decide +kernel
theorem op54_5 : rn_op 54 5 = some (.invokestatic 158, 3, 55, 4, 0) := by decide +kernel
theorem op54_8 : rn_op 54 8 = some (.ifCond .ne 5, 3, 0, 0, 0) := by decide +kernel
theorem op54_11 : rn_op 54 11 = some (.iconst (-1), 1, 0, 0, 0) := by decide +kernel
theorem op54_12 : rn_op 54 12 = some (.ireturn, 1, 0, 0, 0) := by decide +kernel
theorem op54_13 : rn_op 54 13 = some (.aload_n 0, 1, 0, 0, 0) := by decide +kernel
theorem op54_14 : rn_op 54 14 = some (.getfield 19, 3, 10, 1, 3) := by decide +kernel
theorem op54_17 : rn_op 54 17 = some (.getfield 62, 3, 6, 0, 3) := by decide +kernel
theorem op54_20 : rn_op 54 20 = some (.getfield 89, 3, 1, 0, 2) := by decide +kernel
theorem op54_23 : rn_op 54 23 = some (.ifCond .ne 6, 3, 0, 0, 0) := by decide +kernel
theorem op54_26 : rn_op 54 26 = some (.bipush (-2), 2, 0, 0, 0) := by decide +kernel
theorem op54_28 : rn_op 54 28 = some (.ireturn, 1, 0, 0, 0) := by decide +kernel
theorem op54_29 : rn_op 54 29 = some (.aload_n 0, 1, 0, 0, 0) := by decide +kernel
theorem op54_30 : rn_op 54 30 = some (.getfield 19, 3, 10, 1, 3) := by decide +kernel
theorem op54_33 : rn_op 54 33 = some (.getfield 62, 3, 6, 0, 3) := by decide +kernel
theorem op54_36 : rn_op 54 36 = some (.iload_n 1, 1, 0, 0, 0) := by decide +kernel
theorem op54_37 : rn_op 54 37 = some (.iload_n 2, 1, 0, 0, 0) := by decide +kernel
theorem op54_38 : rn_op 54 38 = some (.iload_n 3, 1, 0, 0, 0) := by decide +kernel
theorem op54_39 : rn_op 54 39 = some (.iload 4, 2, 0, 0, 0) := by decide +kernel
theorem op54_41 : rn_op 54 41 = some (.invokestatic 164, 3, 56, 5, 0) := by decide +kernel
theorem op54_44 : rn_op 54 44 = some (.ifCond .ne 5, 3, 0, 0, 0) := by decide +kernel
theorem op54_47 : rn_op 54 47 = some (.iconst (-1), 1, 0, 0, 0) := by decide +kernel
theorem op54_48 : rn_op 54 48 = some (.ireturn, 1, 0, 0, 0) := by decide +kernel
theorem op54_49 : rn_op 54 49 = some (.aload_n 0, 1, 0, 0, 0) := by decide +kernel
theorem op54_50 : rn_op 54 50 = some (.getfield 19, 3, 10, 1, 3) := by decide +kernel
theorem op54_53 : rn_op 54 53 = some (.getfield 168, 3, 6, 2, 3) := by decide +kernel
theorem op54_56 : rn_op 54 56 = some (.getfield 172, 3, 0, 0, 0) := by decide +kernel
theorem op54_59 : rn_op 54 59 = some (.bipush 6, 2, 0, 0, 0) := by decide +kernel
theorem op54_61 : rn_op 54 61 = some (.if_icmp .lt 6, 3, 0, 0, 0) := by decide +kernel
theorem op54_64 : rn_op 54 64 = some (.bipush (-3), 2, 0, 0, 0) := by decide +kernel
theorem op54_66 : rn_op 54 66 = some (.ireturn, 1, 0, 0, 0) := by decide +kernel
theorem op54_67 : rn_op 54 67 = some (.aload_n 0, 1, 0, 0, 0) := by decide +kernel
theorem op54_68 : rn_op 54 68 = some (.iconst 0, 1, 0, 0, 0) := by decide +kernel
theorem op54_69 : rn_op 54 69 = some (.putfield 81, 3, 10, 8, 0) := by decide +kernel
theorem op54_72 : rn_op 54 72 = some (.aload_n 0, 1, 0, 0, 0) := by decide +kernel
theorem op54_73 : rn_op 54 73 = some (.getfield 19, 3, 10, 1, 3) := by decide +kernel
theorem op54_76 : rn_op 54 76 = some (.getfield 168, 3, 6, 2, 3) := by decide +kernel
theorem op54_79 : rn_op 54 79 = some (.iload_n 1, 1, 0, 0, 0) := by decide +kernel
theorem op54_80 : rn_op 54 80 = some (.iload_n 2, 1, 0, 0, 0) := by decide +kernel
theorem op54_81 : rn_op 54 81 = some (.iload_n 3, 1, 0, 0, 0) := by decide +kernel
theorem op54_82 : rn_op 54 82 = some (.iload 4, 2, 0, 0, 0) := by decide +kernel
theorem op54_84 : rn_op 54 84 = some (.invokevirtual 173, 3, 57, 5, 0) := by decide +kernel
theorem op54_87 : rn_op 54 87 = some (.ireturn, 1, 0, 0, 0) := by decide +kernel
def lt_clue (n : Nat) (a1 : Int32) (a2 : Int32) (a3 : Int32) (a4 : Int32) (m : rn_Mem) : Option (Int32 × rn_Mem) :=
  (cl_sound n a1 a2 a3 a4 m).bind fun (r2, m1) =>
  if r2 = 0 then
    some ((-1), m1)
  else
    if (m1.1 4 0) = 0 then
      some ((-2), m1)
    else
      (cl_fits n 4 a1 a2 a3 a4 m1).bind fun (r7, m6) =>
      if r7 = 0 then
        some ((-1), m6)
      else
        if (m6.1 9 0) < 6 then
          (some (rm_i m6 0 8 0)).bind fun (m11 : rn_Mem) =>
          (cl_add n 9 a1 a2 a3 a4 m11).bind fun (r13, m12) =>
          some (r13, m12)
        else
          some ((-3), m6)
set_option maxHeartbeats 4000000 in
set_option maxRecDepth 20000 in
theorem lt_clue_ok (xs : List Int32) {d : Nat} (hd : 2 ≤ d) {n : Nat} {a1 : Int32} {a2 : Int32} {a3 : Int32} {a4 : Int32} {m mO : rn_Mem} {rO : Int32} (h : lt_clue n a1 a2 a3 a4 m = some (rO, mO)) : rn_R xs d 54 0 (rn_ent 5 [.ref 0, .int a1, .int a2, .int a3, .int a4]) [] (rn_SH, m) (some (.int rO)) (rn_SH, mO) := by
  obtain ⟨d, rfl⟩ : ∃ e, d = e + 1 := ⟨d - 1, by omega⟩
  unfold lt_clue at h
  show rn_R xs (d + 1) 54 0 [some (.ref 0), some (.int a1), some (.int a2), some (.int a3), some (.int a4)] [] (rn_SH, m) (some (.int rO)) (rn_SH, mO)
  refine rx_p (L2 := [some (.ref 0), some (.int a1), some (.int a2), some (.int a3), some (.int a4)]) (S2 := [.int a1]) (pc2 := 1) op54_0 rfl rfl ?_
  refine rx_p (L2 := [some (.ref 0), some (.int a1), some (.int a2), some (.int a3), some (.int a4)]) (S2 := [.int a2, .int a1]) (pc2 := 2) op54_1 rfl rfl ?_
  refine rx_p (L2 := [some (.ref 0), some (.int a1), some (.int a2), some (.int a3), some (.int a4)]) (S2 := [.int a3, .int a2, .int a1]) (pc2 := 3) op54_2 rfl rfl ?_
  refine rx_p (L2 := [some (.ref 0), some (.int a1), some (.int a2), some (.int a3), some (.int a4)]) (S2 := [.int a4, .int a3, .int a2, .int a1]) (pc2 := 5) op54_3 rfl rfl ?_
  obtain ⟨⟨r2, m1⟩, f3, h⟩ := rq_bind h
  try dsimp only at h
  refine ry_is (vs := [.int a1, .int a2, .int a3, .int a4]) (T := []) (pc2 := 8) op54_5 (by decide) ms_55 (by decide) rfl rfl (Nat.le_of_ble_eq_true rfl) (Nat.le_of_ble_eq_true rfl) (cl_sound_ok xs (by omega)  f3) rfl ?_
  show rn_R _ _ _ _ _ [.int r2] _ _ _
  refine ry_if_ne (tgt := 13) (pc2 := 11) op54_8 (by decide) (by decide) rfl (fun b4 => ?_) (fun b4 => ?_)
  · have h := (if_pos b4).symm.trans h
    refine rx_ic (v := (-1)) (pc2 := 12) op54_11 (by decide) rfl ?_
    obtain ⟨rfl, rfl⟩ := rq_ret h
    exact ry_ri op54_12 ms_54 rfl
  · have h := (if_neg b4).symm.trans h
    refine rx_p (L2 := [some (.ref 0), some (.int a1), some (.int a2), some (.int a3), some (.int a4)]) (S2 := [.ref 0]) (pc2 := 14) op54_13 rfl rfl ?_
    refine rx_gf (v := .ref 3) (pc2 := 17) op54_14 sp_0 rfl rfl rfl ?_
    refine rx_gf (v := .ref 4) (pc2 := 20) op54_17 sp_3 rfl rfl rfl ?_
    refine rx_gf (v := .int (m1.1 4 0)) (pc2 := 23) op54_20 sp_4 rfl rfl rfl ?_
    refine ry_if_ne (tgt := 29) (pc2 := 26) op54_23 (by decide) (by decide) rfl (fun b5 => ?_) (fun b5 => ?_)
    · have h := (if_pos b5).symm.trans h
      refine rx_bp (v := (-2)) (pc2 := 28) op54_26 (by decide) rfl ?_
      obtain ⟨rfl, rfl⟩ := rq_ret h
      exact ry_ri op54_28 ms_54 rfl
    · have h := (if_neg b5).symm.trans h
      refine rx_p (L2 := [some (.ref 0), some (.int a1), some (.int a2), some (.int a3), some (.int a4)]) (S2 := [.ref 0]) (pc2 := 30) op54_29 rfl rfl ?_
      refine rx_gf (v := .ref 3) (pc2 := 33) op54_30 sp_0 rfl rfl rfl ?_
      refine rx_gf (v := .ref 4) (pc2 := 36) op54_33 sp_3 rfl rfl rfl ?_
      refine rx_p (L2 := [some (.ref 0), some (.int a1), some (.int a2), some (.int a3), some (.int a4)]) (S2 := [.int a1, .ref 4]) (pc2 := 37) op54_36 rfl rfl ?_
      refine rx_p (L2 := [some (.ref 0), some (.int a1), some (.int a2), some (.int a3), some (.int a4)]) (S2 := [.int a2, .int a1, .ref 4]) (pc2 := 38) op54_37 rfl rfl ?_
      refine rx_p (L2 := [some (.ref 0), some (.int a1), some (.int a2), some (.int a3), some (.int a4)]) (S2 := [.int a3, .int a2, .int a1, .ref 4]) (pc2 := 39) op54_38 rfl rfl ?_
      refine rx_p (L2 := [some (.ref 0), some (.int a1), some (.int a2), some (.int a3), some (.int a4)]) (S2 := [.int a4, .int a3, .int a2, .int a1, .ref 4]) (pc2 := 41) op54_39 rfl rfl ?_
      obtain ⟨⟨r7, m6⟩, f8, h⟩ := rq_bind h
      try dsimp only at h
      refine ry_is (vs := [.ref 4, .int a1, .int a2, .int a3, .int a4]) (T := []) (pc2 := 44) op54_41 (by decide) ms_56 (by decide) rfl rfl (Nat.le_of_ble_eq_true rfl) (Nat.le_of_ble_eq_true rfl) (cl_fits_ok xs (by omega) sa_4 f8) rfl ?_
      show rn_R _ _ _ _ _ [.int r7] _ _ _
      refine ry_if_ne (tgt := 49) (pc2 := 47) op54_44 (by decide) (by decide) rfl (fun b9 => ?_) (fun b9 => ?_)
      · have h := (if_pos b9).symm.trans h
        refine rx_ic (v := (-1)) (pc2 := 48) op54_47 (by decide) rfl ?_
        obtain ⟨rfl, rfl⟩ := rq_ret h
        exact ry_ri op54_48 ms_54 rfl
      · have h := (if_neg b9).symm.trans h
        refine rx_p (L2 := [some (.ref 0), some (.int a1), some (.int a2), some (.int a3), some (.int a4)]) (S2 := [.ref 0]) (pc2 := 50) op54_49 rfl rfl ?_
        refine rx_gf (v := .ref 3) (pc2 := 53) op54_50 sp_0 rfl rfl rfl ?_
        refine rx_gf (v := .ref 9) (pc2 := 56) op54_53 sp_3 rfl rfl rfl ?_
        refine rx_gf (v := .int (m6.1 9 0)) (pc2 := 59) op54_56 sp_9 rfl rfl rfl ?_
        refine rx_bp (v := 6) (pc2 := 61) op54_59 (by decide) rfl ?_
        refine ry_ic_lt (tgt := 67) (pc2 := 64) op54_61 (by decide) (by decide) rfl (fun b10 => ?_) (fun b10 => ?_)
        · have h := (if_pos b10).symm.trans h
          refine rx_p (L2 := [some (.ref 0), some (.int a1), some (.int a2), some (.int a3), some (.int a4)]) (S2 := [.ref 0]) (pc2 := 68) op54_67 rfl rfl ?_
          refine rx_ic (v := 0) (pc2 := 69) op54_68 (by decide) rfl ?_
          obtain ⟨m11, em11, h⟩ := rq_bv h
          refine rx_pf (m2 := m11) (pc2 := 72) op54_69 sp_0 rfl em11 rfl ?_
          refine rx_p (L2 := [some (.ref 0), some (.int a1), some (.int a2), some (.int a3), some (.int a4)]) (S2 := [.ref 0]) (pc2 := 73) op54_72 rfl rfl ?_
          refine rx_gf (v := .ref 3) (pc2 := 76) op54_73 sp_0 rfl rfl rfl ?_
          refine rx_gf (v := .ref 9) (pc2 := 79) op54_76 sp_3 rfl rfl rfl ?_
          refine rx_p (L2 := [some (.ref 0), some (.int a1), some (.int a2), some (.int a3), some (.int a4)]) (S2 := [.int a1, .ref 9]) (pc2 := 80) op54_79 rfl rfl ?_
          refine rx_p (L2 := [some (.ref 0), some (.int a1), some (.int a2), some (.int a3), some (.int a4)]) (S2 := [.int a2, .int a1, .ref 9]) (pc2 := 81) op54_80 rfl rfl ?_
          refine rx_p (L2 := [some (.ref 0), some (.int a1), some (.int a2), some (.int a3), some (.int a4)]) (S2 := [.int a3, .int a2, .int a1, .ref 9]) (pc2 := 82) op54_81 rfl rfl ?_
          refine rx_p (L2 := [some (.ref 0), some (.int a1), some (.int a2), some (.int a3), some (.int a4)]) (S2 := [.int a4, .int a3, .int a2, .int a1, .ref 9]) (pc2 := 84) op54_82 rfl rfl ?_
          obtain ⟨⟨r13, m12⟩, f14, h⟩ := rq_bind h
          try dsimp only at h
          refine ry_iv (p := 9) (vs := [.int a1, .int a2, .int a3, .int a4]) (T := []) (pc2 := 87) op54_84 ms_57 (by decide) rfl rfl (Nat.le_of_ble_eq_true rfl) (Nat.le_of_ble_eq_true rfl) sp_9 (cl_add_ok xs (by omega) sa_9 f14) rfl ?_
          show rn_R _ _ _ _ _ [.int r13] _ _ _
          obtain ⟨rfl, rfl⟩ := rq_ret h
          exact ry_ri op54_87 ms_54 rfl
        · have h := (if_neg b10).symm.trans h
          refine rx_bp (v := (-3)) (pc2 := 66) op54_64 (by decide) rfl ?_
          obtain ⟨rfl, rfl⟩ := rq_ret h
          exact ry_ri op54_66 ms_54 rfl
/-! lt_forget -/
theorem op58_0 : rn_op 58 0 = some (.aload_n 0, 1, 0, 0, 0) := by decide +kernel
theorem op58_1 : rn_op 58 1 = some (.getfield 19, 3, 10, 1, 3) := by decide +kernel
theorem op58_4 : rn_op 58 4 = some (.getfield 168, 3, 6, 2, 3) := by decide +kernel
theorem op58_7 : rn_op 58 7 = some (.getfield 172, 3, 0, 0, 0) := by decide +kernel
theorem op58_10 : rn_op 58 10 = some (.istore_n 1, 1, 0, 0, 0) := by decide +kernel
theorem op58_11 : rn_op 58 11 = some (.aload_n 0, 1, 0, 0, 0) := by decide +kernel
theorem op58_12 : rn_op 58 12 = some (.getfield 19, 3, 10, 1, 3) := by decide +kernel
theorem op58_15 : rn_op 58 15 = some (.getfield 168, 3, 6, 2, 3) := by decide +kernel
theorem op58_18 : rn_op 58 18 = some (.iconst 0, 1, 0, 0, 0) := by decide +kernel
theorem op58_19 : rn_op 58 19 = some (.putfield 172, 3, 0, 0, 0) := by decide +kernel
theorem op58_22 : rn_op 58 22 = some (.aload_n 0, 1, 0, 0, 0) := by decide +kernel
theorem op58_23 : rn_op 58 23 = some (.iconst 0, 1, 0, 0, 0) := by decide +kernel
theorem op58_24 : rn_op 58 24 = some (.putfield 81, 3, 10, 8, 0) := by decide +kernel
theorem op58_27 : rn_op 58 27 = some (.iload_n 1, 1, 0, 0, 0) := by decide +kernel
theorem op58_28 : rn_op 58 28 = some (.ireturn, 1, 0, 0, 0) := by decide +kernel
def lt_forget (n : Nat)  (m : rn_Mem) : Option (Int32 × rn_Mem) :=
  (some (m.1 9 0)).bind fun (x1 : Int32) =>
  (some (rm_i m 9 0 0)).bind fun (m2 : rn_Mem) =>
  (some (rm_i m2 0 8 0)).bind fun (m3 : rn_Mem) =>
  some (x1, m3)
set_option maxHeartbeats 4000000 in
set_option maxRecDepth 20000 in
theorem lt_forget_ok (xs : List Int32) {d : Nat} (hd : 0 ≤ d) {n : Nat} {m mO : rn_Mem} {rO : Int32} (h : lt_forget n  m = some (rO, mO)) : rn_R xs d 58 0 (rn_ent 2 [.ref 0]) [] (rn_SH, m) (some (.int rO)) (rn_SH, mO) := by
  unfold lt_forget at h
  show rn_R xs d 58 0 [some (.ref 0), none] [] (rn_SH, m) (some (.int rO)) (rn_SH, mO)
  refine rx_p (L2 := [some (.ref 0), none]) (S2 := [.ref 0]) (pc2 := 1) op58_0 rfl rfl ?_
  refine rx_gf (v := .ref 3) (pc2 := 4) op58_1 sp_0 rfl rfl rfl ?_
  refine rx_gf (v := .ref 9) (pc2 := 7) op58_4 sp_3 rfl rfl rfl ?_
  refine rx_gf (v := .int (m.1 9 0)) (pc2 := 10) op58_7 sp_9 rfl rfl rfl ?_
  obtain ⟨x1, ex1, h⟩ := rq_bv h
  refine rx_s (v := x1) (L2 := [some (.ref 0), some (.int x1)]) (pc2 := 11) op58_10 ex1 rfl rfl ?_
  refine rx_p (L2 := [some (.ref 0), some (.int x1)]) (S2 := [.ref 0]) (pc2 := 12) op58_11 rfl rfl ?_
  refine rx_gf (v := .ref 3) (pc2 := 15) op58_12 sp_0 rfl rfl rfl ?_
  refine rx_gf (v := .ref 9) (pc2 := 18) op58_15 sp_3 rfl rfl rfl ?_
  refine rx_ic (v := 0) (pc2 := 19) op58_18 (by decide) rfl ?_
  obtain ⟨m2, em2, h⟩ := rq_bv h
  refine rx_pf (m2 := m2) (pc2 := 22) op58_19 sp_9 rfl em2 rfl ?_
  refine rx_p (L2 := [some (.ref 0), some (.int x1)]) (S2 := [.ref 0]) (pc2 := 23) op58_22 rfl rfl ?_
  refine rx_ic (v := 0) (pc2 := 24) op58_23 (by decide) rfl ?_
  obtain ⟨m3, em3, h⟩ := rq_bv h
  refine rx_pf (m2 := m3) (pc2 := 27) op58_24 sp_0 rfl em3 rfl ?_
  refine rx_p (L2 := [some (.ref 0), some (.int x1)]) (S2 := [.int x1]) (pc2 := 28) op58_27 rfl rfl ?_
  obtain ⟨rfl, rfl⟩ := rq_ret h
  exact ry_ri op58_28 ms_58 rfl
/-! cl_copy -/
theorem op62_0 : rn_op 62 0 = some (.aload_n 0, 1, 0, 0, 0) := by decide +kernel
theorem op62_1 : rn_op 62 1 = some (.aload_n 1, 1, 0, 0, 0) := by decide +kernel
theorem op62_2 : rn_op 62 2 = some (.getfield 37, 3, 0, 0, 0) := by decide +kernel
theorem op62_5 : rn_op 62 5 = some (.putfield 37, 3, 0, 0, 0) := by decide +kernel
theorem op62_8 : rn_op 62 8 = some (.aload_n 1, 1, 0, 0, 0) := by decide +kernel
theorem op62_9 : rn_op 62 9 = some (.getfield 9, 3, 0, 1, 3) := by decide +kernel
theorem op62_12 : rn_op 62 12 = some (.iconst 0, 1, 0, 0, 0) := by decide +kernel
theorem op62_13 : rn_op 62 13 = some (.aload_n 0, 1, 0, 0, 0) := by decide +kernel
theorem op62_14 : rn_op 62 14 = some (.getfield 9, 3, 0, 1, 3) := by decide +kernel
theorem op62_17 : rn_op 62 17 = some (.iconst 0, 1, 0, 0, 0) := by decide +kernel
theorem op62_18 : rn_op 62 18 = some (.bipush 6, 2, 0, 0, 0) := by decide +kernel
theorem op62_20 : rn_op 62 20 = some (.invokestatic 40, 3, 998, 5, 0) := by decide +kernel
theorem op62_23 : rn_op 62 23 = some (.aload_n 1, 1, 0, 0, 0) := by decide +kernel
theorem op62_24 : rn_op 62 24 = some (.getfield 15, 3, 0, 2, 3) := by decide +kernel
theorem op62_27 : rn_op 62 27 = some (.iconst 0, 1, 0, 0, 0) := by decide +kernel
theorem op62_28 : rn_op 62 28 = some (.aload_n 0, 1, 0, 0, 0) := by decide +kernel
theorem op62_29 : rn_op 62 29 = some (.getfield 15, 3, 0, 2, 3) := by decide +kernel
theorem op62_32 : rn_op 62 32 = some (.iconst 0, 1, 0, 0, 0) := by decide +kernel
theorem op62_33 : rn_op 62 33 = some (.bipush 6, 2, 0, 0, 0) := by decide +kernel
theorem op62_35 : rn_op 62 35 = some (.invokestatic 40, 3, 998, 5, 0) := by decide +kernel
theorem op62_38 : rn_op 62 38 = some (.aload_n 1, 1, 0, 0, 0) := by decide +kernel
theorem op62_39 : rn_op 62 39 = some (.getfield 18, 3, 0, 3, 3) := by decide +kernel
theorem op62_42 : rn_op 62 42 = some (.iconst 0, 1, 0, 0, 0) := by decide +kernel
theorem op62_43 : rn_op 62 43 = some (.aload_n 0, 1, 0, 0, 0) := by decide +kernel
theorem op62_44 : rn_op 62 44 = some (.getfield 18, 3, 0, 3, 3) := by decide +kernel
theorem op62_47 : rn_op 62 47 = some (.iconst 0, 1, 0, 0, 0) := by decide +kernel
theorem op62_48 : rn_op 62 48 = some (.bipush 6, 2, 0, 0, 0) := by decide +kernel
theorem op62_50 : rn_op 62 50 = some (.invokestatic 40, 3, 998, 5, 0) := by decide +kernel
theorem op62_53 : rn_op 62 53 = some (.aload_n 1, 1, 0, 0, 0) := by decide +kernel
theorem op62_54 : rn_op 62 54 = some (.getfield 21, 3, 0, 4, 3) := by decide +kernel
theorem op62_57 : rn_op 62 57 = some (.iconst 0, 1, 0, 0, 0) := by decide +kernel
theorem op62_58 : rn_op 62 58 = some (.aload_n 0, 1, 0, 0, 0) := by decide +kernel
theorem op62_59 : rn_op 62 59 = some (.getfield 21, 3, 0, 4, 3) := by decide +kernel
theorem op62_62 : rn_op 62 62 = some (.iconst 0, 1, 0, 0, 0) := by decide +kernel
theorem op62_63 : rn_op 62 63 = some (.bipush 6, 2, 0, 0, 0) := by decide +kernel
theorem op62_65 : rn_op 62 65 = some (.invokestatic 40, 3, 998, 5, 0) := by decide +kernel
theorem op62_68 : rn_op 62 68 = some (.return_, 1, 0, 0, 0) := by decide +kernel
def cl_copy (n : Nat) (q0 : Nat) (q1 : Nat) (m : rn_Mem) : Option (rn_Mem) :=
  (some (rm_i m q0 0 (m.1 q1 0))).bind fun (m1 : rn_Mem) =>
  (some (rm_c m1 (q1 + 1) (q0 + 1) (0 : Int32).toNatClampNeg (0 : Int32).toNatClampNeg (6 : Int32).toNatClampNeg)).bind fun (m2 : rn_Mem) =>
  (some (rm_c m2 (q1 + 2) (q0 + 2) (0 : Int32).toNatClampNeg (0 : Int32).toNatClampNeg (6 : Int32).toNatClampNeg)).bind fun (m4 : rn_Mem) =>
  (some (rm_c m4 (q1 + 3) (q0 + 3) (0 : Int32).toNatClampNeg (0 : Int32).toNatClampNeg (6 : Int32).toNatClampNeg)).bind fun (m6 : rn_Mem) =>
  (some (rm_c m6 (q1 + 4) (q0 + 4) (0 : Int32).toNatClampNeg (0 : Int32).toNatClampNeg (6 : Int32).toNatClampNeg)).bind fun (m8 : rn_Mem) =>
  some m8
set_option maxHeartbeats 4000000 in
set_option maxRecDepth 20000 in
theorem cl_copy_ok (xs : List Int32) {d : Nat} (hd : 0 ≤ d) {n : Nat} {q0 : Nat} {q1 : Nat} {m mO : rn_Mem} (hq0 : sA_Clues q0) (hq1 : sA_Clues q1) (h : cl_copy n q0 q1 m = some mO) : rn_R xs d 62 0 (rn_ent 2 [.ref q0, .ref q1]) [] (rn_SH, m) none (rn_SH, mO) := by
  unfold cl_copy at h
  show rn_R xs d 62 0 [some (.ref q0), some (.ref q1)] [] (rn_SH, m) none (rn_SH, mO)
  refine rx_p (L2 := [some (.ref q0), some (.ref q1)]) (S2 := [.ref q0]) (pc2 := 1) op62_0 rfl rfl ?_
  refine rx_p (L2 := [some (.ref q0), some (.ref q1)]) (S2 := [.ref q1, .ref q0]) (pc2 := 2) op62_1 rfl rfl ?_
  refine rx_gf (v := .int (m.1 q1 0)) (pc2 := 5) op62_2 (hq1.1) rfl rfl rfl ?_
  obtain ⟨m1, em1, h⟩ := rq_bv h
  refine rx_pf (m2 := m1) (pc2 := 8) op62_5 (hq0.1) rfl em1 rfl ?_
  refine rx_p (L2 := [some (.ref q0), some (.ref q1)]) (S2 := [.ref q1]) (pc2 := 9) op62_8 rfl rfl ?_
  refine rx_gf (v := .ref (q1 + 1)) (pc2 := 12) op62_9 (hq1.1) rfl rfl rfl ?_
  refine rx_ic (v := 0) (pc2 := 13) op62_12 (by decide) rfl ?_
  refine rx_p (L2 := [some (.ref q0), some (.ref q1)]) (S2 := [.ref q0, .int 0, .ref (q1 + 1)]) (pc2 := 14) op62_13 rfl rfl ?_
  refine rx_gf (v := .ref (q0 + 1)) (pc2 := 17) op62_14 (hq0.1) rfl rfl rfl ?_
  refine rx_ic (v := 0) (pc2 := 18) op62_17 (by decide) rfl ?_
  refine rx_bp (v := 6) (pc2 := 20) op62_18 (by decide) rfl ?_
  obtain ⟨m2, em2, h⟩ := rq_bv h
  refine rx_cp (m2 := m2) (pc2 := 23) op62_20 (hq1.2.1) (hq0.2.1) (by decide) (Nat.le_of_ble_eq_true rfl) em2 rfl ?_
  refine rx_p (L2 := [some (.ref q0), some (.ref q1)]) (S2 := [.ref q1]) (pc2 := 24) op62_23 rfl rfl ?_
  refine rx_gf (v := .ref (q1 + 2)) (pc2 := 27) op62_24 (hq1.1) rfl rfl rfl ?_
  refine rx_ic (v := 0) (pc2 := 28) op62_27 (by decide) rfl ?_
  refine rx_p (L2 := [some (.ref q0), some (.ref q1)]) (S2 := [.ref q0, .int 0, .ref (q1 + 2)]) (pc2 := 29) op62_28 rfl rfl ?_
  refine rx_gf (v := .ref (q0 + 2)) (pc2 := 32) op62_29 (hq0.1) rfl rfl rfl ?_
  refine rx_ic (v := 0) (pc2 := 33) op62_32 (by decide) rfl ?_
  refine rx_bp (v := 6) (pc2 := 35) op62_33 (by decide) rfl ?_
  obtain ⟨m4, em4, h⟩ := rq_bv h
  refine rx_cp (m2 := m4) (pc2 := 38) op62_35 (hq1.2.2.1) (hq0.2.2.1) (by decide) (Nat.le_of_ble_eq_true rfl) em4 rfl ?_
  refine rx_p (L2 := [some (.ref q0), some (.ref q1)]) (S2 := [.ref q1]) (pc2 := 39) op62_38 rfl rfl ?_
  refine rx_gf (v := .ref (q1 + 3)) (pc2 := 42) op62_39 (hq1.1) rfl rfl rfl ?_
  refine rx_ic (v := 0) (pc2 := 43) op62_42 (by decide) rfl ?_
  refine rx_p (L2 := [some (.ref q0), some (.ref q1)]) (S2 := [.ref q0, .int 0, .ref (q1 + 3)]) (pc2 := 44) op62_43 rfl rfl ?_
  refine rx_gf (v := .ref (q0 + 3)) (pc2 := 47) op62_44 (hq0.1) rfl rfl rfl ?_
  refine rx_ic (v := 0) (pc2 := 48) op62_47 (by decide) rfl ?_
  refine rx_bp (v := 6) (pc2 := 50) op62_48 (by decide) rfl ?_
  obtain ⟨m6, em6, h⟩ := rq_bv h
  refine rx_cp (m2 := m6) (pc2 := 53) op62_50 (hq1.2.2.2.1) (hq0.2.2.2.1) (by decide) (Nat.le_of_ble_eq_true rfl) em6 rfl ?_
  refine rx_p (L2 := [some (.ref q0), some (.ref q1)]) (S2 := [.ref q1]) (pc2 := 54) op62_53 rfl rfl ?_
  refine rx_gf (v := .ref (q1 + 4)) (pc2 := 57) op62_54 (hq1.1) rfl rfl rfl ?_
  refine rx_ic (v := 0) (pc2 := 58) op62_57 (by decide) rfl ?_
  refine rx_p (L2 := [some (.ref q0), some (.ref q1)]) (S2 := [.ref q0, .int 0, .ref (q1 + 4)]) (pc2 := 59) op62_58 rfl rfl ?_
  refine rx_gf (v := .ref (q0 + 4)) (pc2 := 62) op62_59 (hq0.1) rfl rfl rfl ?_
  refine rx_ic (v := 0) (pc2 := 63) op62_62 (by decide) rfl ?_
  refine rx_bp (v := 6) (pc2 := 65) op62_63 (by decide) rfl ?_
  obtain ⟨m8, em8, h⟩ := rq_bv h
  refine rx_cp (m2 := m8) (pc2 := 68) op62_65 (hq1.2.2.2.2) (hq0.2.2.2.2) (by decide) (Nat.le_of_ble_eq_true rfl) em8 rfl ?_
  obtain rfl := Option.some.inj h
  exact ry_rv op62_68 ms_62 rfl
/-! se_take -/
theorem op61_0 : rn_op 61 0 = some (.aload_n 0, 1, 0, 0, 0) := by decide +kernel
theorem op61_1 : rn_op 61 1 = some (.getfield 12, 3, 4, 0, 3) := by decide +kernel
theorem op61_4 : rn_op 61 4 = some (.aload_n 1, 1, 0, 0, 0) := by decide +kernel
theorem op61_5 : rn_op 61 5 = some (.getfield 61, 3, 6, 0, 3) := by decide +kernel
theorem op61_8 : rn_op 61 8 = some (.invokevirtual 64, 3, 33, 2, 1) := by decide +kernel
theorem op61_11 : rn_op 61 11 = some (.aload_n 0, 1, 0, 0, 0) := by decide +kernel
theorem op61_12 : rn_op 61 12 = some (.getfield 21, 3, 4, 1, 3) := by decide +kernel
theorem op61_15 : rn_op 61 15 = some (.aload_n 1, 1, 0, 0, 0) := by decide +kernel
theorem op61_16 : rn_op 61 16 = some (.getfield 68, 3, 6, 1, 3) := by decide +kernel
theorem op61_19 : rn_op 61 19 = some (.invokevirtual 69, 3, 41, 2, 7) := by decide +kernel
theorem op61_22 : rn_op 61 22 = some (.aload_n 0, 1, 0, 0, 0) := by decide +kernel
theorem op61_23 : rn_op 61 23 = some (.getfield 28, 3, 4, 2, 3) := by decide +kernel
theorem op61_26 : rn_op 61 26 = some (.aload_n 1, 1, 0, 0, 0) := by decide +kernel
theorem op61_27 : rn_op 61 27 = some (.getfield 72, 3, 6, 2, 3) := by decide +kernel
theorem op61_30 : rn_op 61 30 = some (.invokevirtual 73, 3, 62, 2, 0) := by decide +kernel
theorem op61_33 : rn_op 61 33 = some (.return_, 1, 0, 0, 0) := by decide +kernel
def se_take (n : Nat) (q1 : Nat) (m : rn_Mem) : Option (rn_Mem) :=
  (ga_copy n 52 (q1 + 1) m).bind fun m1 =>
  (ta_copy n 53 (q1 + 2) m1).bind fun m3 =>
  (cl_copy n 57 (q1 + 6) m3).bind fun m5 =>
  some m5
set_option maxHeartbeats 4000000 in
set_option maxRecDepth 20000 in
theorem se_take_ok (xs : List Int32) {d : Nat} (hd : 1 ≤ d) {n : Nat} {q1 : Nat} {m mO : rn_Mem} (hq1 : sA_State q1) (h : se_take n q1 m = some mO) : rn_R xs d 61 0 (rn_ent 2 [.ref 51, .ref q1]) [] (rn_SH, m) none (rn_SH, mO) := by
  obtain ⟨d, rfl⟩ : ∃ e, d = e + 1 := ⟨d - 1, by omega⟩
  unfold se_take at h
  show rn_R xs (d + 1) 61 0 [some (.ref 51), some (.ref q1)] [] (rn_SH, m) none (rn_SH, mO)
  refine rx_p (L2 := [some (.ref 51), some (.ref q1)]) (S2 := [.ref 51]) (pc2 := 1) op61_0 rfl rfl ?_
  refine rx_gf (v := .ref 52) (pc2 := 4) op61_1 sp_51 rfl rfl rfl ?_
  refine rx_p (L2 := [some (.ref 51), some (.ref q1)]) (S2 := [.ref q1, .ref 52]) (pc2 := 5) op61_4 rfl rfl ?_
  refine rx_gf (v := .ref (q1 + 1)) (pc2 := 8) op61_5 (hq1.1) rfl rfl rfl ?_
  obtain ⟨m1, f2, h⟩ := rq_bind h
  try dsimp only at h
  refine ry_iv (p := 52) (vs := [.ref (q1 + 1)]) (T := []) (pc2 := 11) op61_8 ms_33 (by decide) rfl rfl (Nat.le_of_ble_eq_true rfl) (Nat.le_of_ble_eq_true rfl) sp_52 (ga_copy_ok xs (by omega) sa_52 (hq1.2.1) f2) rfl ?_
  show rn_R _ _ _ _ _ [] _ _ _
  refine rx_p (L2 := [some (.ref 51), some (.ref q1)]) (S2 := [.ref 51]) (pc2 := 12) op61_11 rfl rfl ?_
  refine rx_gf (v := .ref 53) (pc2 := 15) op61_12 sp_51 rfl rfl rfl ?_
  refine rx_p (L2 := [some (.ref 51), some (.ref q1)]) (S2 := [.ref q1, .ref 53]) (pc2 := 16) op61_15 rfl rfl ?_
  refine rx_gf (v := .ref (q1 + 2)) (pc2 := 19) op61_16 (hq1.1) rfl rfl rfl ?_
  obtain ⟨m3, f4, h⟩ := rq_bind h
  try dsimp only at h
  refine ry_iv (p := 53) (vs := [.ref (q1 + 2)]) (T := []) (pc2 := 22) op61_19 ms_41 (by decide) rfl rfl (Nat.le_of_ble_eq_true rfl) (Nat.le_of_ble_eq_true rfl) sp_53 (ta_copy_ok xs (by omega) sa_53 (hq1.2.2.1) f4) rfl ?_
  show rn_R _ _ _ _ _ [] _ _ _
  refine rx_p (L2 := [some (.ref 51), some (.ref q1)]) (S2 := [.ref 51]) (pc2 := 23) op61_22 rfl rfl ?_
  refine rx_gf (v := .ref 57) (pc2 := 26) op61_23 sp_51 rfl rfl rfl ?_
  refine rx_p (L2 := [some (.ref 51), some (.ref q1)]) (S2 := [.ref q1, .ref 57]) (pc2 := 27) op61_26 rfl rfl ?_
  refine rx_gf (v := .ref (q1 + 6)) (pc2 := 30) op61_27 (hq1.1) rfl rfl rfl ?_
  obtain ⟨m5, f6, h⟩ := rq_bind h
  try dsimp only at h
  refine ry_iv (p := 57) (vs := [.ref (q1 + 6)]) (T := []) (pc2 := 33) op61_30 ms_62 (by decide) rfl rfl (Nat.le_of_ble_eq_true rfl) (Nat.le_of_ble_eq_true rfl) sp_57 (cl_copy_ok xs (by omega) sa_57 (hq1.2.2.2.1) f6) rfl ?_
  show rn_R _ _ _ _ _ [] _ _ _
  obtain rfl := Option.some.inj h
  exact ry_rv op61_33 ms_61 rfl
/-! se_listUnseen -/
theorem op65_0 : rn_op 65 0 = some (.aload_n 0, 1, 0, 0, 0) := by decide +kernel
theorem op65_1 : rn_op 65 1 = some (.getfield 12, 3, 4, 0, 3) := by decide +kernel
theorem op65_4 : rn_op 65 4 = some (.getfield 143, 3, 1, 3, 0) := by decide +kernel
theorem op65_7 : rn_op 65 7 = some (.aload_n 0, 1, 0, 0, 0) := by decide +kernel
theorem op65_8 : rn_op 65 8 = some (.getfield 21, 3, 4, 1, 3) := by decide +kernel
theorem op65_11 : rn_op 65 11 = some (.getfield 146, 3, 7, 5, 0) := by decide +kernel
theorem op65_14 : rn_op 65 14 = some (.iconst (-1), 1, 0, 0, 0) := by decide +kernel
theorem op65_15 : rn_op 65 15 = some (.ixor, 1, 0, 0, 0) := by decide +kernel
theorem op65_16 : rn_op 65 16 = some (.iand, 1, 0, 0, 0) := by decide +kernel
theorem op65_17 : rn_op 65 17 = some (.istore_n 1, 1, 0, 0, 0) := by decide +kernel
theorem op65_18 : rn_op 65 18 = some (.iconst 0, 1, 0, 0, 0) := by decide +kernel
theorem op65_19 : rn_op 65 19 = some (.istore_n 2, 1, 0, 0, 0) := by decide +kernel
theorem op65_20 : rn_op 65 20 = some (.iconst 0, 1, 0, 0, 0) := by decide +kernel
theorem op65_21 : rn_op 65 21 = some (.istore_n 3, 1, 0, 0, 0) := by decide +kernel
theorem op65_22 : rn_op 65 22 = some (.iload_n 3, 1, 0, 0, 0) := by decide +kernel
theorem op65_23 : rn_op 65 23 = some (.bipush 16, 2, 0, 0, 0) := by decide +kernel
theorem op65_25 : rn_op 65 25 = some (.if_icmp .ge 32, 3, 0, 0, 0) := by decide +kernel
theorem op65_28 : rn_op 65 28 = some (.iload_n 2, 1, 0, 0, 0) := by decide +kernel
theorem op65_29 : rn_op 65 29 = some (.iconst 3, 1, 0, 0, 0) := by decide +kernel
theorem op65_30 : rn_op 65 30 = some (.if_icmp .ge 27, 3, 0, 0, 0) := by decide +kernel
theorem op65_33 : rn_op 65 33 = some (.iload_n 1, 1, 0, 0, 0) := by decide +kernel
theorem op65_34 : rn_op 65 34 = some (.iload_n 3, 1, 0, 0, 0) := by decide +kernel
theorem op65_35 : rn_op 65 35 = some (.ishr, 1, 0, 0, 0) := by decide +kernel
theorem op65_36 : rn_op 65 36 = some (.iconst 1, 1, 0, 0, 0) := by decide +kernel
theorem op65_37 : rn_op 65 37 = some (.iand, 1, 0, 0, 0) := by decide +kernel
theorem op65_38 : rn_op 65 38 = some (.ifCond .eq 13, 3, 0, 0, 0) := by decide +kernel
theorem op65_41 : rn_op 65 41 = some (.aload_n 0, 1, 0, 0, 0) := by decide +kernel
theorem op65_42 : rn_op 65 42 = some (.getfield 48, 3, 4, 7, 3) := by decide +kernel
theorem op65_45 : rn_op 65 45 = some (.iload_n 2, 1, 0, 0, 0) := by decide +kernel
theorem op65_46 : rn_op 65 46 = some (.iload_n 3, 1, 0, 0, 0) := by decide +kernel
theorem op65_47 : rn_op 65 47 = some (.iastore, 1, 0, 0, 0) := by decide +kernel
theorem op65_48 : rn_op 65 48 = some (.iinc 2 1, 3, 0, 0, 0) := by decide +kernel
theorem op65_51 : rn_op 65 51 = some (.iinc 3 1, 3, 0, 0, 0) := by decide +kernel
theorem op65_54 : rn_op 65 54 = some (.goto (-32), 3, 0, 0, 0) := by decide +kernel
theorem op65_57 : rn_op 65 57 = some (.iconst 0, 1, 0, 0, 0) := by decide +kernel
theorem op65_58 : rn_op 65 58 = some (.istore_n 2, 1, 0, 0, 0) := by decide +kernel
theorem op65_59 : rn_op 65 59 = some (.iconst 0, 1, 0, 0, 0) := by decide +kernel
theorem op65_60 : rn_op 65 60 = some (.istore_n 3, 1, 0, 0, 0) := by decide +kernel
theorem op65_61 : rn_op 65 61 = some (.iload_n 3, 1, 0, 0, 0) := by decide +kernel
theorem op65_62 : rn_op 65 62 = some (.aload_n 0, 1, 0, 0, 0) := by decide +kernel
theorem op65_63 : rn_op 65 63 = some (.getfield 12, 3, 4, 0, 3) := by decide +kernel
theorem op65_66 : rn_op 65 66 = some (.getfield 101, 3, 1, 1, 0) := by decide +kernel
theorem op65_69 : rn_op 65 69 = some (.if_icmp .ge 68, 3, 0, 0, 0) := by decide +kernel
theorem op65_72 : rn_op 65 72 = some (.iconst 0, 1, 0, 0, 0) := by decide +kernel
theorem op65_73 : rn_op 65 73 = some (.istore 4, 2, 0, 0, 0) := by decide +kernel
theorem op65_75 : rn_op 65 75 = some (.iload 4, 2, 0, 0, 0) := by decide +kernel
theorem op65_77 : rn_op 65 77 = some (.aload_n 0, 1, 0, 0, 0) := by decide +kernel
theorem op65_78 : rn_op 65 78 = some (.getfield 21, 3, 4, 1, 3) := by decide +kernel
theorem op65_81 : rn_op 65 81 = some (.getfield 149, 3, 7, 1, 3) := by decide +kernel
theorem op65_84 : rn_op 65 84 = some (.iload_n 3, 1, 0, 0, 0) := by decide +kernel
theorem op65_85 : rn_op 65 85 = some (.iaload, 1, 0, 0, 0) := by decide +kernel
theorem op65_86 : rn_op 65 86 = some (.if_icmp .ge 45, 3, 0, 0, 0) := by decide +kernel
theorem op65_89 : rn_op 65 89 = some (.iload_n 2, 1, 0, 0, 0) := by decide +kernel
theorem op65_90 : rn_op 65 90 = some (.iconst 3, 1, 0, 0, 0) := by decide +kernel
theorem op65_91 : rn_op 65 91 = some (.if_icmp .ge 40, 3, 0, 0, 0) := by decide +kernel
theorem op65_94 : rn_op 65 94 = some (.aload_n 0, 1, 0, 0, 0) := by decide +kernel
theorem op65_95 : rn_op 65 95 = some (.getfield 21, 3, 4, 1, 3) := by decide +kernel
theorem op65_98 : rn_op 65 98 = some (.iload_n 3, 1, 0, 0, 0) := by decide +kernel
theorem op65_99 : rn_op 65 99 = some (.iload 4, 2, 0, 0, 0) := by decide +kernel
theorem op65_101 : rn_op 65 101 = some (.invokevirtual 152, 3, 48, 3, 7) := by decide +kernel
theorem op65_104 : rn_op 65 104 = some (.bipush (-4), 2, 0, 0, 0) := by decide +kernel
theorem op65_106 : rn_op 65 106 = some (.if_icmp .ne 19, 3, 0, 0, 0) := by decide +kernel
theorem op65_109 : rn_op 65 109 = some (.aload_n 0, 1, 0, 0, 0) := by decide +kernel
theorem op65_110 : rn_op 65 110 = some (.getfield 45, 3, 4, 6, 3) := by decide +kernel
theorem op65_113 : rn_op 65 113 = some (.iload_n 2, 1, 0, 0, 0) := by decide +kernel
theorem op65_114 : rn_op 65 114 = some (.iload_n 3, 1, 0, 0, 0) := by decide +kernel
theorem op65_115 : rn_op 65 115 = some (.bipush 12, 2, 0, 0, 0) := by decide +kernel
theorem op65_117 : rn_op 65 117 = some (.imul, 1, 0, 0, 0) := by decide +kernel
theorem op65_118 : rn_op 65 118 = some (.iload 4, 2, 0, 0, 0) := by decide +kernel
theorem op65_120 : rn_op 65 120 = some (.iadd, 1, 0, 0, 0) := by decide +kernel
theorem op65_121 : rn_op 65 121 = some (.iastore, 1, 0, 0, 0) := by decide +kernel
theorem op65_122 : rn_op 65 122 = some (.iinc 2 1, 3, 0, 0, 0) := by decide +kernel
theorem op65_125 : rn_op 65 125 = some (.iinc 4 1, 3, 0, 0, 0) := by decide +kernel
theorem op65_128 : rn_op 65 128 = some (.goto (-53), 3, 0, 0, 0) := by decide +kernel
theorem op65_131 : rn_op 65 131 = some (.iinc 3 1, 3, 0, 0, 0) := by decide +kernel
theorem op65_134 : rn_op 65 134 = some (.goto (-73), 3, 0, 0, 0) := by decide +kernel
theorem op65_137 : rn_op 65 137 = some (.return_, 1, 0, 0, 0) := by decide +kernel
def se_listUnseen_l22 (a1 : Int32) : Nat → Int32 → Int32 → rn_Mem → Option (rn_Mem)
  | 0, _, _, _ => none
  | n + 1, a2, a3, m =>
    if a3 < 16 then
      if a2 < 3 then
        (show Option (Int32 × rn_Mem) from
          if ((a1 >>> (a3 &&& 31)) &&& 1) = 0 then
            some (a2, m)
          else
            if rn_in a2 3 = true then
              (some (rm_i m 66 a2.toNatClampNeg a3)).bind fun (m5 : rn_Mem) =>
              (some (a2 + 1)).bind fun (x7 : Int32) =>
              some (x7, m5)
            else none).bind fun (x8, m10) =>
        (some (a3 + 1)).bind fun (x11 : Int32) =>
        se_listUnseen_l22 a1 n x8 x11 m10
      else
        some m
    else
      some m
def se_listUnseen_l75 (a3 : Int32) : Nat → Int32 → Int32 → rn_Mem → Option (Int32 × rn_Mem)
  | 0, _, _, _ => none
  | n + 1, a2, a4, m =>
    if rn_in a3 4 = true then
      if a4 < (m.1 54 a3.toNatClampNeg) then
        if a2 < 3 then
          (ta_cardAt n 53 a3 a4 m).bind fun (r24, m23) =>
          (show Option (Int32 × rn_Mem) from
            if r24 = (-4) then
              if rn_in a2 3 = true then
                (some (rm_i m23 65 a2.toNatClampNeg ((a3 * 12) + a4))).bind fun (m27 : rn_Mem) =>
                (some (a2 + 1)).bind fun (x29 : Int32) =>
                some (x29, m27)
              else none
            else
              some (a2, m23)).bind fun (x32, m33) =>
          (some (a4 + 1)).bind fun (x34 : Int32) =>
          se_listUnseen_l75 a3 n x32 x34 m33
        else
          some (a2, m)
      else
        some (a2, m)
    else none
def se_listUnseen_l61  : Nat → Int32 → Int32 → rn_Mem → Option (rn_Mem)
  | 0, _, _, _ => none
  | n + 1, a2, a3, m =>
    if a3 < (m.1 52 1) then
      (se_listUnseen_l75 a3 n a2 0 m).bind fun (x38, m36) =>
      (some (a3 + 1)).bind fun (x40 : Int32) =>
      se_listUnseen_l61 n x38 x40 m36
    else
      some m
def se_listUnseen (n : Nat)  (m : rn_Mem) : Option (rn_Mem) :=
  (some ((m.1 52 3) &&& ((m.1 53 5) ^^^ (-1)))).bind fun (x1 : Int32) =>
  (se_listUnseen_l22 x1 n 0 0 m).bind fun m13 =>
  (se_listUnseen_l61 n 0 0 m13).bind fun m42 =>
  some m42
set_option maxHeartbeats 4000000 in
set_option maxRecDepth 20000 in
theorem se_listUnseen_l22_ok (xs : List Int32) {d : Nat} (hd : 1 ≤ d + 1) {a1 : Int32} {r : Option Value} {τ : rn_H} {out : rn_Mem} (hr : ∀ (mO : rn_Mem), out = mO → ∀ (o1 o2 o3 o4 : Option Value), rn_R xs (d + 1) 65 57 [some (.ref 51), o1, o2, o3, o4] [] (rn_SH, mO) r τ) : ∀ (n : Nat) (a2 : Int32) (a3 : Int32) (o4 : Option Value) (m : rn_Mem), se_listUnseen_l22 a1 n a2 a3 m = some out → rn_R xs (d + 1) 65 22 [some (.ref 51), some (.int a1), some (.int a2), some (.int a3), o4] [] (rn_SH, m) r τ := by
  intro n
  induction n with
  | zero =>
    intro _ _ _ _ h
    cases h
  | succ n ih =>
    intro a2 a3 o4 m h
    unfold se_listUnseen_l22 at h
    try dsimp only at h
    refine rx_p (L2 := [some (.ref 51), some (.int a1), some (.int a2), some (.int a3), o4]) (S2 := [.int a3]) (pc2 := 23) op65_22 rfl rfl ?_
    refine rx_bp (v := 16) (pc2 := 25) op65_23 (by decide) rfl ?_
    refine ry_ic_ge (tgt := 57) (pc2 := 28) op65_25 (by decide) (by decide) rfl (fun b2 => ?_) (fun b2 => ?_)
    · have h := (if_pos b2).symm.trans h
      refine rx_p (L2 := [some (.ref 51), some (.int a1), some (.int a2), some (.int a3), o4]) (S2 := [.int a2]) (pc2 := 29) op65_28 rfl rfl ?_
      refine rx_ic (v := 3) (pc2 := 30) op65_29 (by decide) rfl ?_
      refine ry_ic_ge (tgt := 57) (pc2 := 33) op65_30 (by decide) (by decide) rfl (fun b3 => ?_) (fun b3 => ?_)
      · have h := (if_pos b3).symm.trans h
        refine rx_p (L2 := [some (.ref 51), some (.int a1), some (.int a2), some (.int a3), o4]) (S2 := [.int a1]) (pc2 := 34) op65_33 rfl rfl ?_
        refine rx_p (L2 := [some (.ref 51), some (.int a1), some (.int a2), some (.int a3), o4]) (S2 := [.int a3, .int a1]) (pc2 := 35) op65_34 rfl rfl ?_
        refine rx_p (L2 := [some (.ref 51), some (.int a1), some (.int a2), some (.int a3), o4]) (S2 := [.int (a1 >>> (a3 &&& 31))]) (pc2 := 36) op65_35 rfl rfl ?_
        refine rx_ic (v := 1) (pc2 := 37) op65_36 (by decide) rfl ?_
        refine rx_p (L2 := [some (.ref 51), some (.int a1), some (.int a2), some (.int a3), o4]) (S2 := [.int ((a1 >>> (a3 &&& 31)) &&& 1)]) (pc2 := 38) op65_37 rfl rfl ?_
        obtain ⟨⟨x8, m10⟩, gc12, h⟩ := rq_bind h
        try dsimp only at h
        have c12 : ∀ (o9 : Option Value), rn_R xs (d + 1) 65 51 [some (.ref 51), some (.int a1), some (.int x8), some (.int a3), o9] [] (rn_SH, m10) r τ := by
          intro o9
          obtain ⟨x11, ex11, h⟩ := rq_bv h
          refine rx_inc (w := 1) (v := x11) (L2 := [some (.ref 51), some (.int a1), some (.int x8), some (.int x11), o9]) (pc2 := 54) op65_51 rfl (by decide) ex11 rfl rfl ?_
          refine ry_go (tgt := 22) op65_54 (by decide) (by decide) ?_
          exact ih _ _ _ _ h
        refine ry_if_eq (tgt := 51) (pc2 := 41) op65_38 (by decide) (by decide) rfl (fun b4 => ?_) (fun b4 => ?_)
        · have gc12 := (if_pos b4).symm.trans gc12
          cases gc12
          exact c12 _
        · have gc12 := (if_neg b4).symm.trans gc12
          refine rx_p (L2 := [some (.ref 51), some (.int a1), some (.int a2), some (.int a3), o4]) (S2 := [.ref 51]) (pc2 := 42) op65_41 rfl rfl ?_
          refine rx_gf (v := .ref 66) (pc2 := 45) op65_42 sp_51 rfl rfl rfl ?_
          refine rx_p (L2 := [some (.ref 51), some (.int a1), some (.int a2), some (.int a3), o4]) (S2 := [.int a2, .ref 66]) (pc2 := 46) op65_45 rfl rfl ?_
          refine rx_p (L2 := [some (.ref 51), some (.int a1), some (.int a2), some (.int a3), o4]) (S2 := [.int a3, .int a2, .ref 66]) (pc2 := 47) op65_46 rfl rfl ?_
          obtain ⟨k6, gc12⟩ := rq_chk gc12
          obtain ⟨m5, em5, gc12⟩ := rq_bv gc12
          refine rx_is (m2 := m5) (pc2 := 48) op65_47 sp_66 k6 rfl em5 rfl ?_
          obtain ⟨x7, ex7, gc12⟩ := rq_bv gc12
          refine rx_inc (w := 1) (v := x7) (L2 := [some (.ref 51), some (.int a1), some (.int x7), some (.int a3), o4]) (pc2 := 51) op65_48 rfl (by decide) ex7 rfl rfl ?_
          cases gc12
          exact c12 _
      · have h := (if_neg b3).symm.trans h
        cases h
        exact hr _ rfl _ _ _ _
    · have h := (if_neg b2).symm.trans h
      cases h
      exact hr _ rfl _ _ _ _
set_option maxHeartbeats 4000000 in
set_option maxRecDepth 20000 in
theorem se_listUnseen_l75_ok (xs : List Int32) {d : Nat} (hd : 1 ≤ d + 1) {a3 : Int32} {r : Option Value} {τ : rn_H} {out : Int32 × rn_Mem} (hr : ∀ (z2 : Int32) (mO : rn_Mem), out = (z2, mO) → ∀ (o1 o4 : Option Value), rn_R xs (d + 1) 65 131 [some (.ref 51), o1, some (.int z2), some (.int a3), o4] [] (rn_SH, mO) r τ) : ∀ (n : Nat) (a2 : Int32) (a4 : Int32) (o1 : Option Value) (m : rn_Mem), se_listUnseen_l75 a3 n a2 a4 m = some out → rn_R xs (d + 1) 65 75 [some (.ref 51), o1, some (.int a2), some (.int a3), some (.int a4)] [] (rn_SH, m) r τ := by
  intro n
  induction n with
  | zero =>
    intro _ _ _ _ h
    cases h
  | succ n ih =>
    intro a2 a4 o1 m h
    unfold se_listUnseen_l75 at h
    try dsimp only at h
    refine rx_p (L2 := [some (.ref 51), o1, some (.int a2), some (.int a3), some (.int a4)]) (S2 := [.int a4]) (pc2 := 77) op65_75 rfl rfl ?_
    refine rx_p (L2 := [some (.ref 51), o1, some (.int a2), some (.int a3), some (.int a4)]) (S2 := [.ref 51, .int a4]) (pc2 := 78) op65_77 rfl rfl ?_
    refine rx_gf (v := .ref 53) (pc2 := 81) op65_78 sp_51 rfl rfl rfl ?_
    refine rx_gf (v := .ref 54) (pc2 := 84) op65_81 sp_53 rfl rfl rfl ?_
    refine rx_p (L2 := [some (.ref 51), o1, some (.int a2), some (.int a3), some (.int a4)]) (S2 := [.int a3, .ref 54, .int a4]) (pc2 := 85) op65_84 rfl rfl ?_
    obtain ⟨k20, h⟩ := rq_chk h
    refine rx_ia (pc2 := 86) op65_85 (rn_shlt sp_54) sp_54 k20 rfl rfl ?_
    refine ry_ic_ge (tgt := 131) (pc2 := 89) op65_86 (by decide) (by decide) rfl (fun b21 => ?_) (fun b21 => ?_)
    · have h := (if_pos b21).symm.trans h
      refine rx_p (L2 := [some (.ref 51), o1, some (.int a2), some (.int a3), some (.int a4)]) (S2 := [.int a2]) (pc2 := 90) op65_89 rfl rfl ?_
      refine rx_ic (v := 3) (pc2 := 91) op65_90 (by decide) rfl ?_
      refine ry_ic_ge (tgt := 131) (pc2 := 94) op65_91 (by decide) (by decide) rfl (fun b22 => ?_) (fun b22 => ?_)
      · have h := (if_pos b22).symm.trans h
        refine rx_p (L2 := [some (.ref 51), o1, some (.int a2), some (.int a3), some (.int a4)]) (S2 := [.ref 51]) (pc2 := 95) op65_94 rfl rfl ?_
        refine rx_gf (v := .ref 53) (pc2 := 98) op65_95 sp_51 rfl rfl rfl ?_
        refine rx_p (L2 := [some (.ref 51), o1, some (.int a2), some (.int a3), some (.int a4)]) (S2 := [.int a3, .ref 53]) (pc2 := 99) op65_98 rfl rfl ?_
        refine rx_p (L2 := [some (.ref 51), o1, some (.int a2), some (.int a3), some (.int a4)]) (S2 := [.int a4, .int a3, .ref 53]) (pc2 := 101) op65_99 rfl rfl ?_
        obtain ⟨⟨r24, m23⟩, f25, h⟩ := rq_bind h
        try dsimp only at h
        refine ry_iv (p := 53) (vs := [.int a3, .int a4]) (T := []) (pc2 := 104) op65_101 ms_48 (by decide) rfl rfl (Nat.le_of_ble_eq_true rfl) (Nat.le_of_ble_eq_true rfl) sp_53 (ta_cardAt_ok xs (by omega) sa_53 f25) rfl ?_
        show rn_R _ _ _ _ _ [.int r24] _ _ _
        refine rx_bp (v := (-4)) (pc2 := 106) op65_104 (by decide) rfl ?_
        obtain ⟨⟨x32, m33⟩, gc35, h⟩ := rq_bind h
        try dsimp only at h
        have c35 : ∀ (o31 : Option Value), rn_R xs (d + 1) 65 125 [some (.ref 51), o31, some (.int x32), some (.int a3), some (.int a4)] [] (rn_SH, m33) r τ := by
          intro o31
          obtain ⟨x34, ex34, h⟩ := rq_bv h
          refine rx_inc (w := 1) (v := x34) (L2 := [some (.ref 51), o31, some (.int x32), some (.int a3), some (.int x34)]) (pc2 := 128) op65_125 rfl (by decide) ex34 rfl rfl ?_
          refine ry_go (tgt := 75) op65_128 (by decide) (by decide) ?_
          exact ih _ _ _ _ h
        refine ry_ic_ne (tgt := 125) (pc2 := 109) op65_106 (by decide) (by decide) rfl (fun b26 => ?_) (fun b26 => ?_)
        · have gc35 := (if_pos b26).symm.trans gc35
          refine rx_p (L2 := [some (.ref 51), o1, some (.int a2), some (.int a3), some (.int a4)]) (S2 := [.ref 51]) (pc2 := 110) op65_109 rfl rfl ?_
          refine rx_gf (v := .ref 65) (pc2 := 113) op65_110 sp_51 rfl rfl rfl ?_
          refine rx_p (L2 := [some (.ref 51), o1, some (.int a2), some (.int a3), some (.int a4)]) (S2 := [.int a2, .ref 65]) (pc2 := 114) op65_113 rfl rfl ?_
          refine rx_p (L2 := [some (.ref 51), o1, some (.int a2), some (.int a3), some (.int a4)]) (S2 := [.int a3, .int a2, .ref 65]) (pc2 := 115) op65_114 rfl rfl ?_
          refine rx_bp (v := 12) (pc2 := 117) op65_115 (by decide) rfl ?_
          refine rx_p (L2 := [some (.ref 51), o1, some (.int a2), some (.int a3), some (.int a4)]) (S2 := [.int (a3 * 12), .int a2, .ref 65]) (pc2 := 118) op65_117 rfl rfl ?_
          refine rx_p (L2 := [some (.ref 51), o1, some (.int a2), some (.int a3), some (.int a4)]) (S2 := [.int a4, .int (a3 * 12), .int a2, .ref 65]) (pc2 := 120) op65_118 rfl rfl ?_
          refine rx_p (L2 := [some (.ref 51), o1, some (.int a2), some (.int a3), some (.int a4)]) (S2 := [.int ((a3 * 12) + a4), .int a2, .ref 65]) (pc2 := 121) op65_120 rfl rfl ?_
          obtain ⟨k28, gc35⟩ := rq_chk gc35
          obtain ⟨m27, em27, gc35⟩ := rq_bv gc35
          refine rx_is (m2 := m27) (pc2 := 122) op65_121 sp_65 k28 rfl em27 rfl ?_
          obtain ⟨x29, ex29, gc35⟩ := rq_bv gc35
          refine rx_incd (w := 1) (v := x29) (j := 1) (pc2 := 125) op65_122 rfl (by decide) ex29 rfl (fun o30 => ?_)
          show rn_R _ _ _ _ [some (.ref 51), o30, some (.int x29), some (.int a3), some (.int a4)] _ _ _ _
          cases gc35
          exact c35 _
        · have gc35 := (if_neg b26).symm.trans gc35
          cases gc35
          exact c35 _
      · have h := (if_neg b22).symm.trans h
        cases h
        exact hr _ _ rfl _ _
    · have h := (if_neg b21).symm.trans h
      cases h
      exact hr _ _ rfl _ _
set_option maxHeartbeats 4000000 in
set_option maxRecDepth 20000 in
theorem se_listUnseen_l61_ok (xs : List Int32) {d : Nat} (hd : 1 ≤ d + 1) {r : Option Value} {τ : rn_H} {out : rn_Mem} (hr : ∀ (mO : rn_Mem), out = mO → ∀ (o0 o1 o2 o3 o4 : Option Value), rn_R xs (d + 1) 65 137 [o0, o1, o2, o3, o4] [] (rn_SH, mO) r τ) : ∀ (n : Nat) (a2 : Int32) (a3 : Int32) (o1 o4 : Option Value) (m : rn_Mem), se_listUnseen_l61 n a2 a3 m = some out → rn_R xs (d + 1) 65 61 [some (.ref 51), o1, some (.int a2), some (.int a3), o4] [] (rn_SH, m) r τ := by
  intro n
  induction n with
  | zero =>
    intro _ _ _ _ _ h
    cases h
  | succ n ih =>
    intro a2 a3 o1 o4 m h
    unfold se_listUnseen_l61 at h
    try dsimp only at h
    refine rx_p (L2 := [some (.ref 51), o1, some (.int a2), some (.int a3), o4]) (S2 := [.int a3]) (pc2 := 62) op65_61 rfl rfl ?_
    refine rx_p (L2 := [some (.ref 51), o1, some (.int a2), some (.int a3), o4]) (S2 := [.ref 51, .int a3]) (pc2 := 63) op65_62 rfl rfl ?_
    refine rx_gf (v := .ref 52) (pc2 := 66) op65_63 sp_51 rfl rfl rfl ?_
    refine rx_gf (v := .int (m.1 52 1)) (pc2 := 69) op65_66 sp_52 rfl rfl rfl ?_
    refine ry_ic_ge (tgt := 137) (pc2 := 72) op65_69 (by decide) (by decide) rfl (fun b19 => ?_) (fun b19 => ?_)
    · have h := (if_pos b19).symm.trans h
      refine rx_ic (v := 0) (pc2 := 73) op65_72 (by decide) rfl ?_
      refine rx_s (L2 := [some (.ref 51), o1, some (.int a2), some (.int a3), some (.int 0)]) (pc2 := 75) op65_73 rfl rfl rfl ?_
      obtain ⟨wf41, f41, h⟩ := rq_bind h
      refine se_listUnseen_l75_ok xs hd (fun x38 m36 eq => ?_) _ _ _ _ _  f41
      subst eq
      try dsimp only at h
      intro o37 o39
      obtain ⟨x40, ex40, h⟩ := rq_bv h
      refine rx_inc (w := 1) (v := x40) (L2 := [some (.ref 51), o37, some (.int x38), some (.int x40), o39]) (pc2 := 134) op65_131 rfl (by decide) ex40 rfl rfl ?_
      refine ry_go (tgt := 61) op65_134 (by decide) (by decide) ?_
      exact ih _ _ _ _ _ h
    · have h := (if_neg b19).symm.trans h
      cases h
      exact hr _ rfl _ _ _ _ _
set_option maxHeartbeats 4000000 in
set_option maxRecDepth 20000 in
theorem se_listUnseen_ok (xs : List Int32) {d : Nat} (hd : 1 ≤ d) {n : Nat} {m mO : rn_Mem} (h : se_listUnseen n  m = some mO) : rn_R xs d 65 0 (rn_ent 5 [.ref 51]) [] (rn_SH, m) none (rn_SH, mO) := by
  obtain ⟨d, rfl⟩ : ∃ e, d = e + 1 := ⟨d - 1, by omega⟩
  unfold se_listUnseen at h
  show rn_R xs (d + 1) 65 0 [some (.ref 51), none, none, none, none] [] (rn_SH, m) none (rn_SH, mO)
  refine rx_p (L2 := [some (.ref 51), none, none, none, none]) (S2 := [.ref 51]) (pc2 := 1) op65_0 rfl rfl ?_
  refine rx_gf (v := .ref 52) (pc2 := 4) op65_1 sp_51 rfl rfl rfl ?_
  refine rx_gf (v := .int (m.1 52 3)) (pc2 := 7) op65_4 sp_52 rfl rfl rfl ?_
  refine rx_p (L2 := [some (.ref 51), none, none, none, none]) (S2 := [.ref 51, .int (m.1 52 3)]) (pc2 := 8) op65_7 rfl rfl ?_
  refine rx_gf (v := .ref 53) (pc2 := 11) op65_8 sp_51 rfl rfl rfl ?_
  refine rx_gf (v := .int (m.1 53 5)) (pc2 := 14) op65_11 sp_53 rfl rfl rfl ?_
  refine rx_ic (v := (-1)) (pc2 := 15) op65_14 (by decide) rfl ?_
  refine rx_p (L2 := [some (.ref 51), none, none, none, none]) (S2 := [.int ((m.1 53 5) ^^^ (-1)), .int (m.1 52 3)]) (pc2 := 16) op65_15 rfl rfl ?_
  refine rx_p (L2 := [some (.ref 51), none, none, none, none]) (S2 := [.int ((m.1 52 3) &&& ((m.1 53 5) ^^^ (-1)))]) (pc2 := 17) op65_16 rfl rfl ?_
  obtain ⟨x1, ex1, h⟩ := rq_bv h
  refine rx_s (v := x1) (L2 := [some (.ref 51), some (.int x1), none, none, none]) (pc2 := 18) op65_17 ex1 rfl rfl ?_
  refine rx_ic (v := 0) (pc2 := 19) op65_18 (by decide) rfl ?_
  refine rx_s (L2 := [some (.ref 51), some (.int x1), some (.int 0), none, none]) (pc2 := 20) op65_19 rfl rfl rfl ?_
  refine rx_ic (v := 0) (pc2 := 21) op65_20 (by decide) rfl ?_
  refine rx_s (L2 := [some (.ref 51), some (.int x1), some (.int 0), some (.int 0), none]) (pc2 := 22) op65_21 rfl rfl rfl ?_
  obtain ⟨m13, f49, h⟩ := rq_bind h
  refine se_listUnseen_l22_ok xs hd (fun m0 eq => ?_) _ _ _ _ _  f49
  subst eq
  try dsimp only at h
  intro o14 o15 o16 o17
  refine rx_ic (v := 0) (pc2 := 58) op65_57 (by decide) rfl ?_
  refine rx_sd (v := 0) (j := 1) (pc2 := 59) op65_58 rfl rfl (Nat.le_of_ble_eq_true rfl) rfl (fun o18 => ?_)
  show rn_R _ _ _ _ [some (.ref 51), o18, some (.int 0), o16, o17] _ _ _ _
  refine rx_ic (v := 0) (pc2 := 60) op65_59 (by decide) rfl ?_
  refine rx_s (L2 := [some (.ref 51), o18, some (.int 0), some (.int 0), o17]) (pc2 := 61) op65_60 rfl rfl rfl ?_
  obtain ⟨m42, f48, h⟩ := rq_bind h
  refine se_listUnseen_l61_ok xs hd (fun m0 eq => ?_) _ _ _ _ _ _  f48
  subst eq
  try dsimp only at h
  intro o43 o44 o45 o46 o47
  obtain rfl := Option.some.inj h
  exact ry_rv op65_137 ms_65 rfl
/-! se_settled -/
theorem op66_0 : rn_op 66 0 = some (.aload_n 0, 1, 0, 0, 0) := by decide +kernel
theorem op66_1 : rn_op 66 1 = some (.getfield 76, 3, 4, 10, 0) := by decide +kernel
theorem op66_4 : rn_op 66 4 = some (.iconst 1, 1, 0, 0, 0) := by decide +kernel
theorem op66_5 : rn_op 66 5 = some (.if_icmp .ne 14, 3, 0, 0, 0) := by decide +kernel
theorem op66_8 : rn_op 66 8 = some (.aload_n 0, 1, 0, 0, 0) := by decide +kernel
theorem op66_9 : rn_op 66 9 = some (.getfield 104, 3, 4, 11, 0) := by decide +kernel
theorem op66_12 : rn_op 66 12 = some (.ifCond .ne 7, 3, 0, 0, 0) := by decide +kernel
theorem op66_15 : rn_op 66 15 = some (.iconst 1, 1, 0, 0, 0) := by decide +kernel
theorem op66_16 : rn_op 66 16 = some (.goto 4, 3, 0, 0, 0) := by decide +kernel
theorem op66_19 : rn_op 66 19 = some (.iconst 0, 1, 0, 0, 0) := by decide +kernel
theorem op66_20 : rn_op 66 20 = some (.ireturn, 1, 0, 0, 0) := by decide +kernel
def se_settled (n : Nat)  (m : rn_Mem) : Option (Int32 × rn_Mem) :=
  if (m.1 51 10) = 1 then
    if (m.1 51 11) = 0 then
      some (1, m)
    else
      some (0, m)
  else
    some (0, m)
set_option maxHeartbeats 4000000 in
set_option maxRecDepth 20000 in
theorem se_settled_ok (xs : List Int32) {d : Nat} (hd : 0 ≤ d) {n : Nat} {m mO : rn_Mem} {rO : Int32} (h : se_settled n  m = some (rO, mO)) : rn_R xs d 66 0 (rn_ent 1 [.ref 51]) [] (rn_SH, m) (some (.int rO)) (rn_SH, mO) := by
  unfold se_settled at h
  show rn_R xs d 66 0 [some (.ref 51)] [] (rn_SH, m) (some (.int rO)) (rn_SH, mO)
  refine rx_p (L2 := [some (.ref 51)]) (S2 := [.ref 51]) (pc2 := 1) op66_0 rfl rfl ?_
  refine rx_gf (v := .int (m.1 51 10)) (pc2 := 4) op66_1 sp_51 rfl rfl rfl ?_
  refine rx_ic (v := 1) (pc2 := 5) op66_4 (by decide) rfl ?_
  refine ry_ic_ne (tgt := 19) (pc2 := 8) op66_5 (by decide) (by decide) rfl (fun b1 => ?_) (fun b1 => ?_)
  · have h := (if_pos b1).symm.trans h
    refine rx_p (L2 := [some (.ref 51)]) (S2 := [.ref 51]) (pc2 := 9) op66_8 rfl rfl ?_
    refine rx_gf (v := .int (m.1 51 11)) (pc2 := 12) op66_9 sp_51 rfl rfl rfl ?_
    refine ry_if_ne (tgt := 19) (pc2 := 15) op66_12 (by decide) (by decide) rfl (fun b2 => ?_) (fun b2 => ?_)
    · have h := (if_pos b2).symm.trans h
      refine rx_ic (v := 1) (pc2 := 16) op66_15 (by decide) rfl ?_
      refine ry_go (tgt := 20) op66_16 (by decide) (by decide) ?_
      obtain ⟨rfl, rfl⟩ := rq_ret h
      exact ry_rz (x := 1) op66_20 ms_66 rfl (by decide)
    · have h := (if_neg b2).symm.trans h
      refine rx_ic (v := 0) (pc2 := 20) op66_19 (by decide) rfl ?_
      obtain ⟨rfl, rfl⟩ := rq_ret h
      exact ry_rz (x := 0) op66_20 ms_66 rfl (by decide)
  · have h := (if_neg b1).symm.trans h
    refine rx_ic (v := 0) (pc2 := 20) op66_19 (by decide) rfl ?_
    obtain ⟨rfl, rfl⟩ := rq_ret h
    exact ry_rz (x := 0) op66_20 ms_66 rfl (by decide)
/-! cl_suitsAsked -/
theorem op68_0 : rn_op 68 0 = some (.iconst 0, 1, 0, 0, 0) := by decide +kernel
theorem op68_1 : rn_op 68 1 = some (.istore_n 1, 1, 0, 0, 0) := by decide +kernel
theorem op68_2 : rn_op 68 2 = some (.iconst 0, 1, 0, 0, 0) := by decide +kernel
theorem op68_3 : rn_op 68 3 = some (.istore_n 2, 1, 0, 0, 0) := by decide +kernel
theorem op68_4 : rn_op 68 4 = some (.iload_n 2, 1, 0, 0, 0) := by decide +kernel
theorem op68_5 : rn_op 68 5 = some (.aload_n 0, 1, 0, 0, 0) := by decide +kernel
theorem op68_6 : rn_op 68 6 = some (.getfield 37, 3, 0, 0, 0) := by decide +kernel
theorem op68_9 : rn_op 68 9 = some (.if_icmp .ge 39, 3, 0, 0, 0) := by decide +kernel
theorem op68_12 : rn_op 68 12 = some (.aload_n 0, 1, 0, 0, 0) := by decide +kernel
theorem op68_13 : rn_op 68 13 = some (.getfield 9, 3, 0, 1, 3) := by decide +kernel
theorem op68_16 : rn_op 68 16 = some (.iload_n 2, 1, 0, 0, 0) := by decide +kernel
theorem op68_17 : rn_op 68 17 = some (.iaload, 1, 0, 0, 0) := by decide +kernel
theorem op68_18 : rn_op 68 18 = some (.iconst 3, 1, 0, 0, 0) := by decide +kernel
theorem op68_19 : rn_op 68 19 = some (.if_icmp .ne 23, 3, 0, 0, 0) := by decide +kernel
theorem op68_22 : rn_op 68 22 = some (.iload_n 1, 1, 0, 0, 0) := by decide +kernel
theorem op68_23 : rn_op 68 23 = some (.iconst 1, 1, 0, 0, 0) := by decide +kernel
theorem op68_24 : rn_op 68 24 = some (.iconst 4, 1, 0, 0, 0) := by decide +kernel
theorem op68_25 : rn_op 68 25 = some (.aload_n 0, 1, 0, 0, 0) := by decide +kernel
theorem op68_26 : rn_op 68 26 = some (.getfield 15, 3, 0, 2, 3) := by decide +kernel
theorem op68_29 : rn_op 68 29 = some (.iload_n 2, 1, 0, 0, 0) := by decide +kernel
theorem op68_30 : rn_op 68 30 = some (.iaload, 1, 0, 0, 0) := by decide +kernel
theorem op68_31 : rn_op 68 31 = some (.imul, 1, 0, 0, 0) := by decide +kernel
theorem op68_32 : rn_op 68 32 = some (.aload_n 0, 1, 0, 0, 0) := by decide +kernel
theorem op68_33 : rn_op 68 33 = some (.getfield 18, 3, 0, 3, 3) := by decide +kernel
theorem op68_36 : rn_op 68 36 = some (.iload_n 2, 1, 0, 0, 0) := by decide +kernel
theorem op68_37 : rn_op 68 37 = some (.iaload, 1, 0, 0, 0) := by decide +kernel
theorem op68_38 : rn_op 68 38 = some (.iadd, 1, 0, 0, 0) := by decide +kernel
theorem op68_39 : rn_op 68 39 = some (.ishl, 1, 0, 0, 0) := by decide +kernel
theorem op68_40 : rn_op 68 40 = some (.ior, 1, 0, 0, 0) := by decide +kernel
theorem op68_41 : rn_op 68 41 = some (.istore_n 1, 1, 0, 0, 0) := by decide +kernel
theorem op68_42 : rn_op 68 42 = some (.iinc 2 1, 3, 0, 0, 0) := by decide +kernel
theorem op68_45 : rn_op 68 45 = some (.goto (-41), 3, 0, 0, 0) := by decide +kernel
theorem op68_48 : rn_op 68 48 = some (.iload_n 1, 1, 0, 0, 0) := by decide +kernel
theorem op68_49 : rn_op 68 49 = some (.ireturn, 1, 0, 0, 0) := by decide +kernel
def cl_suitsAsked_l4 (q0 : Nat) : Nat → Int32 → Int32 → rn_Mem → Option (Int32 × rn_Mem)
  | 0, _, _, _ => none
  | n + 1, a1, a2, m =>
    if a2 < (m.1 q0 0) then
      if rn_in a2 6 = true then
        (show Option (Int32) from
          if (m.1 (q0 + 1) a2.toNatClampNeg) = 3 then
            if rn_in a2 6 = true then
              if rn_in a2 6 = true then
                (some (a1 ||| ((1 : Int32) <<< ((((4 : Int32) * (m.1 (q0 + 2) a2.toNatClampNeg)) + (m.1 (q0 + 3) a2.toNatClampNeg)) &&& 31)))).bind fun (x6 : Int32) =>
                some (x6)
              else none
            else none
          else
            some (a1)).bind fun x7 =>
        (some (a2 + 1)).bind fun (x8 : Int32) =>
        cl_suitsAsked_l4 q0 n x7 x8 m
      else none
    else
      some (a1, m)
def cl_suitsAsked (n : Nat) (q0 : Nat) (m : rn_Mem) : Option (Int32 × rn_Mem) :=
  (cl_suitsAsked_l4 q0 n 0 0 m).bind fun (x12, m10) =>
  some (x12, m10)
set_option maxHeartbeats 4000000 in
set_option maxRecDepth 20000 in
theorem cl_suitsAsked_l4_ok (xs : List Int32) {d : Nat} {q0 : Nat} {r : Option Value} {τ : rn_H} {out : Int32 × rn_Mem} (hr : ∀ (z1 : Int32) (mO : rn_Mem), out = (z1, mO) → ∀ (o0 o2 : Option Value), rn_R xs d 68 48 [o0, some (.int z1), o2] [] (rn_SH, mO) r τ) : ∀ (n : Nat) (a1 : Int32) (a2 : Int32) (m : rn_Mem), sA_Clues q0 → cl_suitsAsked_l4 q0 n a1 a2 m = some out → rn_R xs d 68 4 [some (.ref q0), some (.int a1), some (.int a2)] [] (rn_SH, m) r τ := by
  intro n
  induction n with
  | zero =>
    intro _ _ _ _ h
    cases h
  | succ n ih =>
    intro a1 a2 m hq0 h
    unfold cl_suitsAsked_l4 at h
    try dsimp only at h
    refine rx_p (L2 := [some (.ref q0), some (.int a1), some (.int a2)]) (S2 := [.int a2]) (pc2 := 5) op68_4 rfl rfl ?_
    refine rx_p (L2 := [some (.ref q0), some (.int a1), some (.int a2)]) (S2 := [.ref q0, .int a2]) (pc2 := 6) op68_5 rfl rfl ?_
    refine rx_gf (v := .int (m.1 q0 0)) (pc2 := 9) op68_6 (hq0.1) rfl rfl rfl ?_
    refine ry_ic_ge (tgt := 48) (pc2 := 12) op68_9 (by decide) (by decide) rfl (fun b1 => ?_) (fun b1 => ?_)
    · have h := (if_pos b1).symm.trans h
      refine rx_p (L2 := [some (.ref q0), some (.int a1), some (.int a2)]) (S2 := [.ref q0]) (pc2 := 13) op68_12 rfl rfl ?_
      refine rx_gf (v := .ref (q0 + 1)) (pc2 := 16) op68_13 (hq0.1) rfl rfl rfl ?_
      refine rx_p (L2 := [some (.ref q0), some (.int a1), some (.int a2)]) (S2 := [.int a2, .ref (q0 + 1)]) (pc2 := 17) op68_16 rfl rfl ?_
      obtain ⟨k2, h⟩ := rq_chk h
      refine rx_ia (pc2 := 18) op68_17 (rn_shlt (hq0.2.1)) (hq0.2.1) k2 rfl rfl ?_
      refine rx_ic (v := 3) (pc2 := 19) op68_18 (by decide) rfl ?_
      obtain ⟨x7, gc9, h⟩ := rq_bind h
      try dsimp only at h
      have c9 : ∀ (_ : Unit), rn_R xs d 68 42 [some (.ref q0), some (.int x7), some (.int a2)] [] (rn_SH, m) r τ := by
        intro _
        obtain ⟨x8, ex8, h⟩ := rq_bv h
        refine rx_inc (w := 1) (v := x8) (L2 := [some (.ref q0), some (.int x7), some (.int x8)]) (pc2 := 45) op68_42 rfl (by decide) ex8 rfl rfl ?_
        refine ry_go (tgt := 4) op68_45 (by decide) (by decide) ?_
        exact ih _ _ _ hq0 h
      refine ry_ic_ne (tgt := 42) (pc2 := 22) op68_19 (by decide) (by decide) rfl (fun b3 => ?_) (fun b3 => ?_)
      · have gc9 := (if_pos b3).symm.trans gc9
        refine rx_p (L2 := [some (.ref q0), some (.int a1), some (.int a2)]) (S2 := [.int a1]) (pc2 := 23) op68_22 rfl rfl ?_
        refine rx_ic (v := 1) (pc2 := 24) op68_23 (by decide) rfl ?_
        refine rx_ic (v := 4) (pc2 := 25) op68_24 (by decide) rfl ?_
        refine rx_p (L2 := [some (.ref q0), some (.int a1), some (.int a2)]) (S2 := [.ref q0, .int 4, .int 1, .int a1]) (pc2 := 26) op68_25 rfl rfl ?_
        refine rx_gf (v := .ref (q0 + 2)) (pc2 := 29) op68_26 (hq0.1) rfl rfl rfl ?_
        refine rx_p (L2 := [some (.ref q0), some (.int a1), some (.int a2)]) (S2 := [.int a2, .ref (q0 + 2), .int 4, .int 1, .int a1]) (pc2 := 30) op68_29 rfl rfl ?_
        obtain ⟨k4, gc9⟩ := rq_chk gc9
        refine rx_ia (pc2 := 31) op68_30 (rn_shlt (hq0.2.2.1)) (hq0.2.2.1) k4 rfl rfl ?_
        refine rx_p (L2 := [some (.ref q0), some (.int a1), some (.int a2)]) (S2 := [.int ((4 : Int32) * (m.1 (q0 + 2) a2.toNatClampNeg)), .int 1, .int a1]) (pc2 := 32) op68_31 rfl rfl ?_
        refine rx_p (L2 := [some (.ref q0), some (.int a1), some (.int a2)]) (S2 := [.ref q0, .int ((4 : Int32) * (m.1 (q0 + 2) a2.toNatClampNeg)), .int 1, .int a1]) (pc2 := 33) op68_32 rfl rfl ?_
        refine rx_gf (v := .ref (q0 + 3)) (pc2 := 36) op68_33 (hq0.1) rfl rfl rfl ?_
        refine rx_p (L2 := [some (.ref q0), some (.int a1), some (.int a2)]) (S2 := [.int a2, .ref (q0 + 3), .int ((4 : Int32) * (m.1 (q0 + 2) a2.toNatClampNeg)), .int 1, .int a1]) (pc2 := 37) op68_36 rfl rfl ?_
        obtain ⟨k5, gc9⟩ := rq_chk gc9
        refine rx_ia (pc2 := 38) op68_37 (rn_shlt (hq0.2.2.2.1)) (hq0.2.2.2.1) k5 rfl rfl ?_
        refine rx_p (L2 := [some (.ref q0), some (.int a1), some (.int a2)]) (S2 := [.int (((4 : Int32) * (m.1 (q0 + 2) a2.toNatClampNeg)) + (m.1 (q0 + 3) a2.toNatClampNeg)), .int 1, .int a1]) (pc2 := 39) op68_38 rfl rfl ?_
        refine rx_p (L2 := [some (.ref q0), some (.int a1), some (.int a2)]) (S2 := [.int ((1 : Int32) <<< ((((4 : Int32) * (m.1 (q0 + 2) a2.toNatClampNeg)) + (m.1 (q0 + 3) a2.toNatClampNeg)) &&& 31)), .int a1]) (pc2 := 40) op68_39 rfl rfl ?_
        refine rx_p (L2 := [some (.ref q0), some (.int a1), some (.int a2)]) (S2 := [.int (a1 ||| ((1 : Int32) <<< ((((4 : Int32) * (m.1 (q0 + 2) a2.toNatClampNeg)) + (m.1 (q0 + 3) a2.toNatClampNeg)) &&& 31)))]) (pc2 := 41) op68_40 rfl rfl ?_
        obtain ⟨x6, ex6, gc9⟩ := rq_bv gc9
        refine rx_s (v := x6) (L2 := [some (.ref q0), some (.int x6), some (.int a2)]) (pc2 := 42) op68_41 ex6 rfl rfl ?_
        cases gc9
        exact c9 ()
      · have gc9 := (if_neg b3).symm.trans gc9
        cases gc9
        exact c9 ()
    · have h := (if_neg b1).symm.trans h
      cases h
      exact hr _ _ rfl _ _
set_option maxHeartbeats 4000000 in
set_option maxRecDepth 20000 in
theorem cl_suitsAsked_ok (xs : List Int32) {d : Nat} (hd : 0 ≤ d) {n : Nat} {q0 : Nat} {m mO : rn_Mem} {rO : Int32} (hq0 : sA_Clues q0) (h : cl_suitsAsked n q0 m = some (rO, mO)) : rn_R xs d 68 0 (rn_ent 3 [.ref q0]) [] (rn_SH, m) (some (.int rO)) (rn_SH, mO) := by
  unfold cl_suitsAsked at h
  show rn_R xs d 68 0 [some (.ref q0), none, none] [] (rn_SH, m) (some (.int rO)) (rn_SH, mO)
  refine rx_ic (v := 0) (pc2 := 1) op68_0 (by decide) rfl ?_
  refine rx_s (L2 := [some (.ref q0), some (.int 0), none]) (pc2 := 2) op68_1 rfl rfl rfl ?_
  refine rx_ic (v := 0) (pc2 := 3) op68_2 (by decide) rfl ?_
  refine rx_s (L2 := [some (.ref q0), some (.int 0), some (.int 0)]) (pc2 := 4) op68_3 rfl rfl rfl ?_
  obtain ⟨wf14, f14, h⟩ := rq_bind h
  refine cl_suitsAsked_l4_ok xs (fun x12 m10 eq => ?_) _ _ _ _ hq0 f14
  subst eq
  try dsimp only at h
  intro o11 o13
  refine rx_p (L2 := [o11, some (.int x12), o13]) (S2 := [.int x12]) (pc2 := 49) op68_48 rfl rfl ?_
  obtain ⟨rfl, rfl⟩ := rq_ret h
  exact ry_ri op68_49 ms_68 rfl
/-! wa_begin -/
theorem op69_0 : rn_op 69 0 = some (.aload_n 0, 1, 0, 0, 0) := by decide +kernel
theorem op69_1 : rn_op 69 1 = some (.iload_n 1, 1, 0, 0, 0) := by decide +kernel
theorem op69_2 : rn_op 69 2 = some (.putfield 34, 3, 9, 0, 0) := by decide +kernel
theorem op69_5 : rn_op 69 5 = some (.aload_n 0, 1, 0, 0, 0) := by decide +kernel
theorem op69_6 : rn_op 69 6 = some (.iconst 0, 1, 0, 0, 0) := by decide +kernel
theorem op69_7 : rn_op 69 7 = some (.putfield 38, 3, 9, 1, 0) := by decide +kernel
theorem op69_10 : rn_op 69 10 = some (.aload_n 0, 1, 0, 0, 0) := by decide +kernel
theorem op69_11 : rn_op 69 11 = some (.iconst 0, 1, 0, 0, 0) := by decide +kernel
theorem op69_12 : rn_op 69 12 = some (.putfield 41, 3, 9, 2, 0) := by decide +kernel
theorem op69_15 : rn_op 69 15 = some (.return_, 1, 0, 0, 0) := by decide +kernel
def wa_begin (n : Nat) (q0 : Nat) (a1 : Int32) (m : rn_Mem) : Option (rn_Mem) :=
  (some (rm_i m q0 0 a1)).bind fun (m1 : rn_Mem) =>
  (some (rm_i m1 q0 1 0)).bind fun (m2 : rn_Mem) =>
  (some (rm_i m2 q0 2 0)).bind fun (m3 : rn_Mem) =>
  some m3
set_option maxHeartbeats 4000000 in
set_option maxRecDepth 20000 in
theorem wa_begin_ok (xs : List Int32) {d : Nat} (hd : 0 ≤ d) {n : Nat} {q0 : Nat} {a1 : Int32} {m mO : rn_Mem} (hq0 : sA_Ways q0) (h : wa_begin n q0 a1 m = some mO) : rn_R xs d 69 0 (rn_ent 2 [.ref q0, .int a1]) [] (rn_SH, m) none (rn_SH, mO) := by
  unfold wa_begin at h
  show rn_R xs d 69 0 [some (.ref q0), some (.int a1)] [] (rn_SH, m) none (rn_SH, mO)
  refine rx_p (L2 := [some (.ref q0), some (.int a1)]) (S2 := [.ref q0]) (pc2 := 1) op69_0 rfl rfl ?_
  refine rx_p (L2 := [some (.ref q0), some (.int a1)]) (S2 := [.int a1, .ref q0]) (pc2 := 2) op69_1 rfl rfl ?_
  obtain ⟨m1, em1, h⟩ := rq_bv h
  refine rx_pf (m2 := m1) (pc2 := 5) op69_2 (hq0.1) rfl em1 rfl ?_
  refine rx_p (L2 := [some (.ref q0), some (.int a1)]) (S2 := [.ref q0]) (pc2 := 6) op69_5 rfl rfl ?_
  refine rx_ic (v := 0) (pc2 := 7) op69_6 (by decide) rfl ?_
  obtain ⟨m2, em2, h⟩ := rq_bv h
  refine rx_pf (m2 := m2) (pc2 := 10) op69_7 (hq0.1) rfl em2 rfl ?_
  refine rx_p (L2 := [some (.ref q0), some (.int a1)]) (S2 := [.ref q0]) (pc2 := 11) op69_10 rfl rfl ?_
  refine rx_ic (v := 0) (pc2 := 12) op69_11 (by decide) rfl ?_
  obtain ⟨m3, em3, h⟩ := rq_bv h
  refine rx_pf (m2 := m3) (pc2 := 15) op69_12 (hq0.1) rfl em3 rfl ?_
  obtain rfl := Option.some.inj h
  exact ry_rv op69_15 ms_69 rfl
/-! wa_barredBy -/
theorem op72_0 : rn_op 72 0 = some (.iload_n 1, 1, 0, 0, 0) := by decide +kernel
theorem op72_1 : rn_op 72 1 = some (.iconst 2, 1, 0, 0, 0) := by decide +kernel
theorem op72_2 : rn_op 72 2 = some (.ishr, 1, 0, 0, 0) := by decide +kernel
theorem op72_3 : rn_op 72 3 = some (.istore_n 3, 1, 0, 0, 0) := by decide +kernel
theorem op72_4 : rn_op 72 4 = some (.aload_n 0, 1, 0, 0, 0) := by decide +kernel
theorem op72_5 : rn_op 72 5 = some (.getfield 79, 3, 1, 5, 0) := by decide +kernel
theorem op72_8 : rn_op 72 8 = some (.iconst 1, 1, 0, 0, 0) := by decide +kernel
theorem op72_9 : rn_op 72 9 = some (.if_icmp .eq 10, 3, 0, 0, 0) := by decide +kernel
theorem op72_12 : rn_op 72 12 = some (.iload_n 3, 1, 0, 0, 0) := by decide +kernel
theorem op72_13 : rn_op 72 13 = some (.iload_n 2, 1, 0, 0, 0) := by decide +kernel
theorem op72_14 : rn_op 72 14 = some (.iconst 2, 1, 0, 0, 0) := by decide +kernel
theorem op72_15 : rn_op 72 15 = some (.ishr, 1, 0, 0, 0) := by decide +kernel
theorem op72_16 : rn_op 72 16 = some (.if_icmp .ne 5, 3, 0, 0, 0) := by decide +kernel
theorem op72_19 : rn_op 72 19 = some (.iconst 0, 1, 0, 0, 0) := by decide +kernel
theorem op72_20 : rn_op 72 20 = some (.ireturn, 1, 0, 0, 0) := by decide +kernel
theorem op72_21 : rn_op 72 21 = some (.iconst 1, 1, 0, 0, 0) := by decide +kernel
theorem op72_22 : rn_op 72 22 = some (.iload_n 2, 1, 0, 0, 0) := by decide +kernel
theorem op72_23 : rn_op 72 23 = some (.iconst 2, 1, 0, 0, 0) := by decide +kernel
theorem op72_24 : rn_op 72 24 = some (.ishr, 1, 0, 0, 0) := by decide +kernel
theorem op72_25 : rn_op 72 25 = some (.ishl, 1, 0, 0, 0) := by decide +kernel
theorem op72_26 : rn_op 72 26 = some (.istore 4, 2, 0, 0, 0) := by decide +kernel
theorem op72_28 : rn_op 72 28 = some (.aload_n 0, 1, 0, 0, 0) := by decide +kernel
theorem op72_29 : rn_op 72 29 = some (.getfield 79, 3, 1, 5, 0) := by decide +kernel
theorem op72_32 : rn_op 72 32 = some (.iconst 2, 1, 0, 0, 0) := by decide +kernel
theorem op72_33 : rn_op 72 33 = some (.if_icmp .ne 30, 3, 0, 0, 0) := by decide +kernel
theorem op72_36 : rn_op 72 36 = some (.aload_n 0, 1, 0, 0, 0) := by decide +kernel
theorem op72_37 : rn_op 72 37 = some (.getfield 82, 3, 1, 4, 0) := by decide +kernel
theorem op72_40 : rn_op 72 40 = some (.ifCond .lt 23, 3, 0, 0, 0) := by decide +kernel
theorem op72_43 : rn_op 72 43 = some (.iload_n 3, 1, 0, 0, 0) := by decide +kernel
theorem op72_44 : rn_op 72 44 = some (.aload_n 0, 1, 0, 0, 0) := by decide +kernel
theorem op72_45 : rn_op 72 45 = some (.getfield 82, 3, 1, 4, 0) := by decide +kernel
theorem op72_48 : rn_op 72 48 = some (.if_icmp .eq 15, 3, 0, 0, 0) := by decide +kernel
theorem op72_51 : rn_op 72 51 = some (.iload 4, 2, 0, 0, 0) := by decide +kernel
theorem op72_53 : rn_op 72 53 = some (.iconst 1, 1, 0, 0, 0) := by decide +kernel
theorem op72_54 : rn_op 72 54 = some (.aload_n 0, 1, 0, 0, 0) := by decide +kernel
theorem op72_55 : rn_op 72 55 = some (.getfield 82, 3, 1, 4, 0) := by decide +kernel
theorem op72_58 : rn_op 72 58 = some (.ishl, 1, 0, 0, 0) := by decide +kernel
theorem op72_59 : rn_op 72 59 = some (.ior, 1, 0, 0, 0) := by decide +kernel
theorem op72_60 : rn_op 72 60 = some (.goto 5, 3, 0, 0, 0) := by decide +kernel
theorem op72_63 : rn_op 72 63 = some (.iload 4, 2, 0, 0, 0) := by decide +kernel
theorem op72_65 : rn_op 72 65 = some (.ireturn, 1, 0, 0, 0) := by decide +kernel
def wa_barredBy (n : Nat) (q0 : Nat) (a1 : Int32) (a2 : Int32) (m : rn_Mem) : Option (Int32 × rn_Mem) :=
  (some (a1 >>> (2 &&& 31))).bind fun (x1 : Int32) =>
  if (m.1 q0 5) = 1 then
    some (0, m)
  else
    if x1 = (a2 >>> (2 &&& 31)) then
      some (0, m)
    else
      (some ((1 : Int32) <<< ((a2 >>> (2 &&& 31)) &&& 31))).bind fun (x4 : Int32) =>
      if (m.1 q0 5) = 2 then
        if (m.1 q0 4) < 0 then
          some (x4, m)
        else
          if x1 = (m.1 q0 4) then
            some (x4, m)
          else
            some (x4 ||| ((1 : Int32) <<< ((m.1 q0 4) &&& 31)), m)
      else
        some (x4, m)
set_option maxHeartbeats 4000000 in
set_option maxRecDepth 20000 in
theorem wa_barredBy_ok (xs : List Int32) {d : Nat} (hd : 0 ≤ d) {n : Nat} {q0 : Nat} {a1 : Int32} {a2 : Int32} {m mO : rn_Mem} {rO : Int32} (hq0 : sA_Game q0) (h : wa_barredBy n q0 a1 a2 m = some (rO, mO)) : rn_R xs d 72 0 (rn_ent 5 [.ref q0, .int a1, .int a2]) [] (rn_SH, m) (some (.int rO)) (rn_SH, mO) := by
  unfold wa_barredBy at h
  show rn_R xs d 72 0 [some (.ref q0), some (.int a1), some (.int a2), none, none] [] (rn_SH, m) (some (.int rO)) (rn_SH, mO)
  refine rx_p (L2 := [some (.ref q0), some (.int a1), some (.int a2), none, none]) (S2 := [.int a1]) (pc2 := 1) op72_0 rfl rfl ?_
  refine rx_ic (v := 2) (pc2 := 2) op72_1 (by decide) rfl ?_
  refine rx_p (L2 := [some (.ref q0), some (.int a1), some (.int a2), none, none]) (S2 := [.int (a1 >>> (2 &&& 31))]) (pc2 := 3) op72_2 rfl rfl ?_
  obtain ⟨x1, ex1, h⟩ := rq_bv h
  refine rx_s (v := x1) (L2 := [some (.ref q0), some (.int a1), some (.int a2), some (.int x1), none]) (pc2 := 4) op72_3 ex1 rfl rfl ?_
  refine rx_p (L2 := [some (.ref q0), some (.int a1), some (.int a2), some (.int x1), none]) (S2 := [.ref q0]) (pc2 := 5) op72_4 rfl rfl ?_
  refine rx_gf (v := .int (m.1 q0 5)) (pc2 := 8) op72_5 hq0 rfl rfl rfl ?_
  refine rx_ic (v := 1) (pc2 := 9) op72_8 (by decide) rfl ?_
  refine ry_ic_eq (tgt := 19) (pc2 := 12) op72_9 (by decide) (by decide) rfl (fun b2 => ?_) (fun b2 => ?_)
  · have h := (if_pos b2).symm.trans h
    refine rx_ic (v := 0) (pc2 := 20) op72_19 (by decide) rfl ?_
    obtain ⟨rfl, rfl⟩ := rq_ret h
    exact ry_ri op72_20 ms_72 rfl
  · have h := (if_neg b2).symm.trans h
    refine rx_p (L2 := [some (.ref q0), some (.int a1), some (.int a2), some (.int x1), none]) (S2 := [.int x1]) (pc2 := 13) op72_12 rfl rfl ?_
    refine rx_p (L2 := [some (.ref q0), some (.int a1), some (.int a2), some (.int x1), none]) (S2 := [.int a2, .int x1]) (pc2 := 14) op72_13 rfl rfl ?_
    refine rx_ic (v := 2) (pc2 := 15) op72_14 (by decide) rfl ?_
    refine rx_p (L2 := [some (.ref q0), some (.int a1), some (.int a2), some (.int x1), none]) (S2 := [.int (a2 >>> (2 &&& 31)), .int x1]) (pc2 := 16) op72_15 rfl rfl ?_
    refine ry_ic_ne (tgt := 21) (pc2 := 19) op72_16 (by decide) (by decide) rfl (fun b3 => ?_) (fun b3 => ?_)
    · have h := (if_pos b3).symm.trans h
      refine rx_ic (v := 0) (pc2 := 20) op72_19 (by decide) rfl ?_
      obtain ⟨rfl, rfl⟩ := rq_ret h
      exact ry_ri op72_20 ms_72 rfl
    · have h := (if_neg b3).symm.trans h
      refine rx_ic (v := 1) (pc2 := 22) op72_21 (by decide) rfl ?_
      refine rx_p (L2 := [some (.ref q0), some (.int a1), some (.int a2), some (.int x1), none]) (S2 := [.int a2, .int 1]) (pc2 := 23) op72_22 rfl rfl ?_
      refine rx_ic (v := 2) (pc2 := 24) op72_23 (by decide) rfl ?_
      refine rx_p (L2 := [some (.ref q0), some (.int a1), some (.int a2), some (.int x1), none]) (S2 := [.int (a2 >>> (2 &&& 31)), .int 1]) (pc2 := 25) op72_24 rfl rfl ?_
      refine rx_p (L2 := [some (.ref q0), some (.int a1), some (.int a2), some (.int x1), none]) (S2 := [.int ((1 : Int32) <<< ((a2 >>> (2 &&& 31)) &&& 31))]) (pc2 := 26) op72_25 rfl rfl ?_
      obtain ⟨x4, ex4, h⟩ := rq_bv h
      refine rx_s (v := x4) (L2 := [some (.ref q0), some (.int a1), some (.int a2), some (.int x1), some (.int x4)]) (pc2 := 28) op72_26 ex4 rfl rfl ?_
      refine rx_p (L2 := [some (.ref q0), some (.int a1), some (.int a2), some (.int x1), some (.int x4)]) (S2 := [.ref q0]) (pc2 := 29) op72_28 rfl rfl ?_
      refine rx_gf (v := .int (m.1 q0 5)) (pc2 := 32) op72_29 hq0 rfl rfl rfl ?_
      refine rx_ic (v := 2) (pc2 := 33) op72_32 (by decide) rfl ?_
      refine ry_ic_ne (tgt := 63) (pc2 := 36) op72_33 (by decide) (by decide) rfl (fun b5 => ?_) (fun b5 => ?_)
      · have h := (if_pos b5).symm.trans h
        refine rx_p (L2 := [some (.ref q0), some (.int a1), some (.int a2), some (.int x1), some (.int x4)]) (S2 := [.ref q0]) (pc2 := 37) op72_36 rfl rfl ?_
        refine rx_gf (v := .int (m.1 q0 4)) (pc2 := 40) op72_37 hq0 rfl rfl rfl ?_
        refine ry_if_lt (tgt := 63) (pc2 := 43) op72_40 (by decide) (by decide) rfl (fun b6 => ?_) (fun b6 => ?_)
        · have h := (if_pos b6).symm.trans h
          refine rx_p (L2 := [some (.ref q0), some (.int a1), some (.int a2), some (.int x1), some (.int x4)]) (S2 := [.int x4]) (pc2 := 65) op72_63 rfl rfl ?_
          obtain ⟨rfl, rfl⟩ := rq_ret h
          exact ry_ri op72_65 ms_72 rfl
        · have h := (if_neg b6).symm.trans h
          refine rx_p (L2 := [some (.ref q0), some (.int a1), some (.int a2), some (.int x1), some (.int x4)]) (S2 := [.int x1]) (pc2 := 44) op72_43 rfl rfl ?_
          refine rx_p (L2 := [some (.ref q0), some (.int a1), some (.int a2), some (.int x1), some (.int x4)]) (S2 := [.ref q0, .int x1]) (pc2 := 45) op72_44 rfl rfl ?_
          refine rx_gf (v := .int (m.1 q0 4)) (pc2 := 48) op72_45 hq0 rfl rfl rfl ?_
          refine ry_ic_eq (tgt := 63) (pc2 := 51) op72_48 (by decide) (by decide) rfl (fun b7 => ?_) (fun b7 => ?_)
          · have h := (if_pos b7).symm.trans h
            refine rx_p (L2 := [some (.ref q0), some (.int a1), some (.int a2), some (.int x1), some (.int x4)]) (S2 := [.int x4]) (pc2 := 65) op72_63 rfl rfl ?_
            obtain ⟨rfl, rfl⟩ := rq_ret h
            exact ry_ri op72_65 ms_72 rfl
          · have h := (if_neg b7).symm.trans h
            refine rx_p (L2 := [some (.ref q0), some (.int a1), some (.int a2), some (.int x1), some (.int x4)]) (S2 := [.int x4]) (pc2 := 53) op72_51 rfl rfl ?_
            refine rx_ic (v := 1) (pc2 := 54) op72_53 (by decide) rfl ?_
            refine rx_p (L2 := [some (.ref q0), some (.int a1), some (.int a2), some (.int x1), some (.int x4)]) (S2 := [.ref q0, .int 1, .int x4]) (pc2 := 55) op72_54 rfl rfl ?_
            refine rx_gf (v := .int (m.1 q0 4)) (pc2 := 58) op72_55 hq0 rfl rfl rfl ?_
            refine rx_p (L2 := [some (.ref q0), some (.int a1), some (.int a2), some (.int x1), some (.int x4)]) (S2 := [.int ((1 : Int32) <<< ((m.1 q0 4) &&& 31)), .int x4]) (pc2 := 59) op72_58 rfl rfl ?_
            refine rx_p (L2 := [some (.ref q0), some (.int a1), some (.int a2), some (.int x1), some (.int x4)]) (S2 := [.int (x4 ||| ((1 : Int32) <<< ((m.1 q0 4) &&& 31)))]) (pc2 := 60) op72_59 rfl rfl ?_
            refine ry_go (tgt := 65) op72_60 (by decide) (by decide) ?_
            obtain ⟨rfl, rfl⟩ := rq_ret h
            exact ry_ri op72_65 ms_72 rfl
      · have h := (if_neg b5).symm.trans h
        refine rx_p (L2 := [some (.ref q0), some (.int a1), some (.int a2), some (.int x1), some (.int x4)]) (S2 := [.int x4]) (pc2 := 65) op72_63 rfl rfl ?_
        obtain ⟨rfl, rfl⟩ := rq_ret h
        exact ry_ri op72_65 ms_72 rfl
/-! cl_againstHolding -/
theorem op73_0 : rn_op 73 0 = some (.iconst 0, 1, 0, 0, 0) := by decide +kernel
theorem op73_1 : rn_op 73 1 = some (.istore_n 3, 1, 0, 0, 0) := by decide +kernel
theorem op73_2 : rn_op 73 2 = some (.iconst 0, 1, 0, 0, 0) := by decide +kernel
theorem op73_3 : rn_op 73 3 = some (.istore 4, 2, 0, 0, 0) := by decide +kernel
theorem op73_5 : rn_op 73 5 = some (.iload 4, 2, 0, 0, 0) := by decide +kernel
theorem op73_7 : rn_op 73 7 = some (.aload_n 0, 1, 0, 0, 0) := by decide +kernel
theorem op73_8 : rn_op 73 8 = some (.getfield 37, 3, 0, 0, 0) := by decide +kernel
theorem op73_11 : rn_op 73 11 = some (.if_icmp .ge 48, 3, 0, 0, 0) := by decide +kernel
theorem op73_14 : rn_op 73 14 = some (.aload_n 0, 1, 0, 0, 0) := by decide +kernel
theorem op73_15 : rn_op 73 15 = some (.getfield 9, 3, 0, 1, 3) := by decide +kernel
theorem op73_18 : rn_op 73 18 = some (.iload 4, 2, 0, 0, 0) := by decide +kernel
theorem op73_20 : rn_op 73 20 = some (.iaload, 1, 0, 0, 0) := by decide +kernel
theorem op73_21 : rn_op 73 21 = some (.ifCond .ne 32, 3, 0, 0, 0) := by decide +kernel
theorem op73_24 : rn_op 73 24 = some (.aload_n 0, 1, 0, 0, 0) := by decide +kernel
theorem op73_25 : rn_op 73 25 = some (.getfield 18, 3, 0, 3, 3) := by decide +kernel
theorem op73_28 : rn_op 73 28 = some (.iload 4, 2, 0, 0, 0) := by decide +kernel
theorem op73_30 : rn_op 73 30 = some (.iaload, 1, 0, 0, 0) := by decide +kernel
theorem op73_31 : rn_op 73 31 = some (.iload_n 2, 1, 0, 0, 0) := by decide +kernel
theorem op73_32 : rn_op 73 32 = some (.if_icmp .ne 21, 3, 0, 0, 0) := by decide +kernel
theorem op73_35 : rn_op 73 35 = some (.aload_n 0, 1, 0, 0, 0) := by decide +kernel
theorem op73_36 : rn_op 73 36 = some (.getfield 15, 3, 0, 2, 3) := by decide +kernel
theorem op73_39 : rn_op 73 39 = some (.iload 4, 2, 0, 0, 0) := by decide +kernel
theorem op73_41 : rn_op 73 41 = some (.iaload, 1, 0, 0, 0) := by decide +kernel
theorem op73_42 : rn_op 73 42 = some (.iload_n 1, 1, 0, 0, 0) := by decide +kernel
theorem op73_43 : rn_op 73 43 = some (.if_icmp .eq 10, 3, 0, 0, 0) := by decide +kernel
theorem op73_46 : rn_op 73 46 = some (.iload_n 3, 1, 0, 0, 0) := by decide +kernel
theorem op73_47 : rn_op 73 47 = some (.iconst 1, 1, 0, 0, 0) := by decide +kernel
theorem op73_48 : rn_op 73 48 = some (.iload 4, 2, 0, 0, 0) := by decide +kernel
theorem op73_50 : rn_op 73 50 = some (.ishl, 1, 0, 0, 0) := by decide +kernel
theorem op73_51 : rn_op 73 51 = some (.ior, 1, 0, 0, 0) := by decide +kernel
theorem op73_52 : rn_op 73 52 = some (.istore_n 3, 1, 0, 0, 0) := by decide +kernel
theorem op73_53 : rn_op 73 53 = some (.iinc 4 1, 3, 0, 0, 0) := by decide +kernel
theorem op73_56 : rn_op 73 56 = some (.goto (-51), 3, 0, 0, 0) := by decide +kernel
theorem op73_59 : rn_op 73 59 = some (.iload_n 3, 1, 0, 0, 0) := by decide +kernel
theorem op73_60 : rn_op 73 60 = some (.ireturn, 1, 0, 0, 0) := by decide +kernel
def cl_againstHolding_l5 (q0 : Nat) (a1 : Int32) (a2 : Int32) : Nat → Int32 → Int32 → rn_Mem → Option (Int32 × rn_Mem)
  | 0, _, _, _ => none
  | n + 1, a3, a4, m =>
    if a4 < (m.1 q0 0) then
      if rn_in a4 6 = true then
        (show Option (Int32) from
          if (m.1 (q0 + 1) a4.toNatClampNeg) = 0 then
            if rn_in a4 6 = true then
              if (m.1 (q0 + 3) a4.toNatClampNeg) = a2 then
                if rn_in a4 6 = true then
                  if (m.1 (q0 + 2) a4.toNatClampNeg) = a1 then
                    some (a3)
                  else
                    (some (a3 ||| ((1 : Int32) <<< (a4 &&& 31)))).bind fun (x8 : Int32) =>
                    some (x8)
                else none
              else
                some (a3)
            else none
          else
            some (a3)).bind fun x9 =>
        (some (a4 + 1)).bind fun (x10 : Int32) =>
        cl_againstHolding_l5 q0 a1 a2 n x9 x10 m
      else none
    else
      some (a3, m)
def cl_againstHolding (n : Nat) (q0 : Nat) (a1 : Int32) (a2 : Int32) (m : rn_Mem) : Option (Int32 × rn_Mem) :=
  (cl_againstHolding_l5 q0 a1 a2 n 0 0 m).bind fun (x16, m12) =>
  some (x16, m12)
set_option maxHeartbeats 4000000 in
set_option maxRecDepth 20000 in
theorem cl_againstHolding_l5_ok (xs : List Int32) {d : Nat} {q0 : Nat} {a1 : Int32} {a2 : Int32} {r : Option Value} {τ : rn_H} {out : Int32 × rn_Mem} (hr : ∀ (z3 : Int32) (mO : rn_Mem), out = (z3, mO) → ∀ (o0 o1 o2 o4 : Option Value), rn_R xs d 73 59 [o0, o1, o2, some (.int z3), o4] [] (rn_SH, mO) r τ) : ∀ (n : Nat) (a3 : Int32) (a4 : Int32) (m : rn_Mem), sA_Clues q0 → cl_againstHolding_l5 q0 a1 a2 n a3 a4 m = some out → rn_R xs d 73 5 [some (.ref q0), some (.int a1), some (.int a2), some (.int a3), some (.int a4)] [] (rn_SH, m) r τ := by
  intro n
  induction n with
  | zero =>
    intro _ _ _ _ h
    cases h
  | succ n ih =>
    intro a3 a4 m hq0 h
    unfold cl_againstHolding_l5 at h
    try dsimp only at h
    refine rx_p (L2 := [some (.ref q0), some (.int a1), some (.int a2), some (.int a3), some (.int a4)]) (S2 := [.int a4]) (pc2 := 7) op73_5 rfl rfl ?_
    refine rx_p (L2 := [some (.ref q0), some (.int a1), some (.int a2), some (.int a3), some (.int a4)]) (S2 := [.ref q0, .int a4]) (pc2 := 8) op73_7 rfl rfl ?_
    refine rx_gf (v := .int (m.1 q0 0)) (pc2 := 11) op73_8 (hq0.1) rfl rfl rfl ?_
    refine ry_ic_ge (tgt := 59) (pc2 := 14) op73_11 (by decide) (by decide) rfl (fun b1 => ?_) (fun b1 => ?_)
    · have h := (if_pos b1).symm.trans h
      refine rx_p (L2 := [some (.ref q0), some (.int a1), some (.int a2), some (.int a3), some (.int a4)]) (S2 := [.ref q0]) (pc2 := 15) op73_14 rfl rfl ?_
      refine rx_gf (v := .ref (q0 + 1)) (pc2 := 18) op73_15 (hq0.1) rfl rfl rfl ?_
      refine rx_p (L2 := [some (.ref q0), some (.int a1), some (.int a2), some (.int a3), some (.int a4)]) (S2 := [.int a4, .ref (q0 + 1)]) (pc2 := 20) op73_18 rfl rfl ?_
      obtain ⟨k2, h⟩ := rq_chk h
      refine rx_ia (pc2 := 21) op73_20 (rn_shlt (hq0.2.1)) (hq0.2.1) k2 rfl rfl ?_
      obtain ⟨x9, gc11, h⟩ := rq_bind h
      try dsimp only at h
      have c11 : ∀ (_ : Unit), rn_R xs d 73 53 [some (.ref q0), some (.int a1), some (.int a2), some (.int x9), some (.int a4)] [] (rn_SH, m) r τ := by
        intro _
        obtain ⟨x10, ex10, h⟩ := rq_bv h
        refine rx_inc (w := 1) (v := x10) (L2 := [some (.ref q0), some (.int a1), some (.int a2), some (.int x9), some (.int x10)]) (pc2 := 56) op73_53 rfl (by decide) ex10 rfl rfl ?_
        refine ry_go (tgt := 5) op73_56 (by decide) (by decide) ?_
        exact ih _ _ _ hq0 h
      refine ry_if_ne (tgt := 53) (pc2 := 24) op73_21 (by decide) (by decide) rfl (fun b3 => ?_) (fun b3 => ?_)
      · have gc11 := (if_pos b3).symm.trans gc11
        refine rx_p (L2 := [some (.ref q0), some (.int a1), some (.int a2), some (.int a3), some (.int a4)]) (S2 := [.ref q0]) (pc2 := 25) op73_24 rfl rfl ?_
        refine rx_gf (v := .ref (q0 + 3)) (pc2 := 28) op73_25 (hq0.1) rfl rfl rfl ?_
        refine rx_p (L2 := [some (.ref q0), some (.int a1), some (.int a2), some (.int a3), some (.int a4)]) (S2 := [.int a4, .ref (q0 + 3)]) (pc2 := 30) op73_28 rfl rfl ?_
        obtain ⟨k4, gc11⟩ := rq_chk gc11
        refine rx_ia (pc2 := 31) op73_30 (rn_shlt (hq0.2.2.2.1)) (hq0.2.2.2.1) k4 rfl rfl ?_
        refine rx_p (L2 := [some (.ref q0), some (.int a1), some (.int a2), some (.int a3), some (.int a4)]) (S2 := [.int a2, .int (m.1 (q0 + 3) a4.toNatClampNeg)]) (pc2 := 32) op73_31 rfl rfl ?_
        refine ry_ic_ne (tgt := 53) (pc2 := 35) op73_32 (by decide) (by decide) rfl (fun b5 => ?_) (fun b5 => ?_)
        · have gc11 := (if_pos b5).symm.trans gc11
          refine rx_p (L2 := [some (.ref q0), some (.int a1), some (.int a2), some (.int a3), some (.int a4)]) (S2 := [.ref q0]) (pc2 := 36) op73_35 rfl rfl ?_
          refine rx_gf (v := .ref (q0 + 2)) (pc2 := 39) op73_36 (hq0.1) rfl rfl rfl ?_
          refine rx_p (L2 := [some (.ref q0), some (.int a1), some (.int a2), some (.int a3), some (.int a4)]) (S2 := [.int a4, .ref (q0 + 2)]) (pc2 := 41) op73_39 rfl rfl ?_
          obtain ⟨k6, gc11⟩ := rq_chk gc11
          refine rx_ia (pc2 := 42) op73_41 (rn_shlt (hq0.2.2.1)) (hq0.2.2.1) k6 rfl rfl ?_
          refine rx_p (L2 := [some (.ref q0), some (.int a1), some (.int a2), some (.int a3), some (.int a4)]) (S2 := [.int a1, .int (m.1 (q0 + 2) a4.toNatClampNeg)]) (pc2 := 43) op73_42 rfl rfl ?_
          refine ry_ic_eq (tgt := 53) (pc2 := 46) op73_43 (by decide) (by decide) rfl (fun b7 => ?_) (fun b7 => ?_)
          · have gc11 := (if_pos b7).symm.trans gc11
            cases gc11
            exact c11 ()
          · have gc11 := (if_neg b7).symm.trans gc11
            refine rx_p (L2 := [some (.ref q0), some (.int a1), some (.int a2), some (.int a3), some (.int a4)]) (S2 := [.int a3]) (pc2 := 47) op73_46 rfl rfl ?_
            refine rx_ic (v := 1) (pc2 := 48) op73_47 (by decide) rfl ?_
            refine rx_p (L2 := [some (.ref q0), some (.int a1), some (.int a2), some (.int a3), some (.int a4)]) (S2 := [.int a4, .int 1, .int a3]) (pc2 := 50) op73_48 rfl rfl ?_
            refine rx_p (L2 := [some (.ref q0), some (.int a1), some (.int a2), some (.int a3), some (.int a4)]) (S2 := [.int ((1 : Int32) <<< (a4 &&& 31)), .int a3]) (pc2 := 51) op73_50 rfl rfl ?_
            refine rx_p (L2 := [some (.ref q0), some (.int a1), some (.int a2), some (.int a3), some (.int a4)]) (S2 := [.int (a3 ||| ((1 : Int32) <<< (a4 &&& 31)))]) (pc2 := 52) op73_51 rfl rfl ?_
            obtain ⟨x8, ex8, gc11⟩ := rq_bv gc11
            refine rx_s (v := x8) (L2 := [some (.ref q0), some (.int a1), some (.int a2), some (.int x8), some (.int a4)]) (pc2 := 53) op73_52 ex8 rfl rfl ?_
            cases gc11
            exact c11 ()
        · have gc11 := (if_neg b5).symm.trans gc11
          cases gc11
          exact c11 ()
      · have gc11 := (if_neg b3).symm.trans gc11
        cases gc11
        exact c11 ()
    · have h := (if_neg b1).symm.trans h
      cases h
      exact hr _ _ rfl _ _ _ _
set_option maxHeartbeats 4000000 in
set_option maxRecDepth 20000 in
theorem cl_againstHolding_ok (xs : List Int32) {d : Nat} (hd : 0 ≤ d) {n : Nat} {q0 : Nat} {a1 : Int32} {a2 : Int32} {m mO : rn_Mem} {rO : Int32} (hq0 : sA_Clues q0) (h : cl_againstHolding n q0 a1 a2 m = some (rO, mO)) : rn_R xs d 73 0 (rn_ent 5 [.ref q0, .int a1, .int a2]) [] (rn_SH, m) (some (.int rO)) (rn_SH, mO) := by
  unfold cl_againstHolding at h
  show rn_R xs d 73 0 [some (.ref q0), some (.int a1), some (.int a2), none, none] [] (rn_SH, m) (some (.int rO)) (rn_SH, mO)
  refine rx_ic (v := 0) (pc2 := 1) op73_0 (by decide) rfl ?_
  refine rx_s (L2 := [some (.ref q0), some (.int a1), some (.int a2), some (.int 0), none]) (pc2 := 2) op73_1 rfl rfl rfl ?_
  refine rx_ic (v := 0) (pc2 := 3) op73_2 (by decide) rfl ?_
  refine rx_s (L2 := [some (.ref q0), some (.int a1), some (.int a2), some (.int 0), some (.int 0)]) (pc2 := 5) op73_3 rfl rfl rfl ?_
  obtain ⟨wf18, f18, h⟩ := rq_bind h
  refine cl_againstHolding_l5_ok xs (fun x16 m12 eq => ?_) _ _ _ _ hq0 f18
  subst eq
  try dsimp only at h
  intro o13 o14 o15 o17
  refine rx_p (L2 := [o13, o14, o15, some (.int x16), o17]) (S2 := [.int x16]) (pc2 := 60) op73_59 rfl rfl ?_
  obtain ⟨rfl, rfl⟩ := rq_ret h
  exact ry_ri op73_60 ms_73 rfl
/-! wa_find -/
theorem op74_0 : rn_op 74 0 = some (.iconst 0, 1, 0, 0, 0) := by decide +kernel
theorem op74_1 : rn_op 74 1 = some (.istore 5, 2, 0, 0, 0) := by decide +kernel
theorem op74_3 : rn_op 74 3 = some (.iload 5, 2, 0, 0, 0) := by decide +kernel
theorem op74_5 : rn_op 74 5 = some (.aload_n 0, 1, 0, 0, 0) := by decide +kernel
theorem op74_6 : rn_op 74 6 = some (.getfield 41, 3, 9, 2, 0) := by decide +kernel
theorem op74_9 : rn_op 74 9 = some (.if_icmp .ge 57, 3, 0, 0, 0) := by decide +kernel
theorem op74_12 : rn_op 74 12 = some (.aload_n 0, 1, 0, 0, 0) := by decide +kernel
theorem op74_13 : rn_op 74 13 = some (.getfield 9, 3, 9, 3, 3) := by decide +kernel
theorem op74_16 : rn_op 74 16 = some (.iload 5, 2, 0, 0, 0) := by decide +kernel
theorem op74_18 : rn_op 74 18 = some (.iaload, 1, 0, 0, 0) := by decide +kernel
theorem op74_19 : rn_op 74 19 = some (.iload_n 1, 1, 0, 0, 0) := by decide +kernel
theorem op74_20 : rn_op 74 20 = some (.if_icmp .ne 40, 3, 0, 0, 0) := by decide +kernel
theorem op74_23 : rn_op 74 23 = some (.aload_n 0, 1, 0, 0, 0) := by decide +kernel
theorem op74_24 : rn_op 74 24 = some (.getfield 15, 3, 9, 4, 3) := by decide +kernel
theorem op74_27 : rn_op 74 27 = some (.iload 5, 2, 0, 0, 0) := by decide +kernel
theorem op74_29 : rn_op 74 29 = some (.iaload, 1, 0, 0, 0) := by decide +kernel
theorem op74_30 : rn_op 74 30 = some (.iload_n 2, 1, 0, 0, 0) := by decide +kernel
theorem op74_31 : rn_op 74 31 = some (.if_icmp .ne 29, 3, 0, 0, 0) := by decide +kernel
theorem op74_34 : rn_op 74 34 = some (.aload_n 0, 1, 0, 0, 0) := by decide +kernel
theorem op74_35 : rn_op 74 35 = some (.getfield 18, 3, 9, 5, 3) := by decide +kernel
theorem op74_38 : rn_op 74 38 = some (.iload 5, 2, 0, 0, 0) := by decide +kernel
theorem op74_40 : rn_op 74 40 = some (.iaload, 1, 0, 0, 0) := by decide +kernel
theorem op74_41 : rn_op 74 41 = some (.iload_n 3, 1, 0, 0, 0) := by decide +kernel
theorem op74_42 : rn_op 74 42 = some (.if_icmp .ne 18, 3, 0, 0, 0) := by decide +kernel
theorem op74_45 : rn_op 74 45 = some (.aload_n 0, 1, 0, 0, 0) := by decide +kernel
theorem op74_46 : rn_op 74 46 = some (.getfield 21, 3, 9, 6, 3) := by decide +kernel
theorem op74_49 : rn_op 74 49 = some (.iload 5, 2, 0, 0, 0) := by decide +kernel
theorem op74_51 : rn_op 74 51 = some (.iaload, 1, 0, 0, 0) := by decide +kernel
theorem op74_52 : rn_op 74 52 = some (.iload 4, 2, 0, 0, 0) := by decide +kernel
theorem op74_54 : rn_op 74 54 = some (.if_icmp .ne 6, 3, 0, 0, 0) := by decide +kernel
theorem op74_57 : rn_op 74 57 = some (.iload 5, 2, 0, 0, 0) := by decide +kernel
theorem op74_59 : rn_op 74 59 = some (.ireturn, 1, 0, 0, 0) := by decide +kernel
theorem op74_60 : rn_op 74 60 = some (.iinc 5 1, 3, 0, 0, 0) := by decide +kernel
theorem op74_63 : rn_op 74 63 = some (.goto (-60), 3, 0, 0, 0) := by decide +kernel
theorem op74_66 : rn_op 74 66 = some (.aload_n 0, 1, 0, 0, 0) := by decide +kernel
theorem op74_67 : rn_op 74 67 = some (.getfield 41, 3, 9, 2, 0) := by decide +kernel
theorem op74_70 : rn_op 74 70 = some (.bipush 24, 2, 0, 0, 0) := by decide +kernel
theorem op74_72 : rn_op 74 72 = some (.if_icmp .lt 5, 3, 0, 0, 0) := by decide +kernel
theorem op74_75 : rn_op 74 75 = some (.iconst (-1), 1, 0, 0, 0) := by decide +kernel
theorem op74_76 : rn_op 74 76 = some (.ireturn, 1, 0, 0, 0) := by decide +kernel
theorem op74_77 : rn_op 74 77 = some (.aload_n 0, 1, 0, 0, 0) := by decide +kernel
theorem op74_78 : rn_op 74 78 = some (.getfield 9, 3, 9, 3, 3) := by decide +kernel
theorem op74_81 : rn_op 74 81 = some (.aload_n 0, 1, 0, 0, 0) := by decide +kernel
theorem op74_82 : rn_op 74 82 = some (.getfield 41, 3, 9, 2, 0) := by decide +kernel
theorem op74_85 : rn_op 74 85 = some (.iload_n 1, 1, 0, 0, 0) := by decide +kernel
theorem op74_86 : rn_op 74 86 = some (.iastore, 1, 0, 0, 0) := by decide +kernel
theorem op74_87 : rn_op 74 87 = some (.aload_n 0, 1, 0, 0, 0) := by decide +kernel
theorem op74_88 : rn_op 74 88 = some (.getfield 15, 3, 9, 4, 3) := by decide +kernel
theorem op74_91 : rn_op 74 91 = some (.aload_n 0, 1, 0, 0, 0) := by decide +kernel
theorem op74_92 : rn_op 74 92 = some (.getfield 41, 3, 9, 2, 0) := by decide +kernel
theorem op74_95 : rn_op 74 95 = some (.iload_n 2, 1, 0, 0, 0) := by decide +kernel
theorem op74_96 : rn_op 74 96 = some (.iastore, 1, 0, 0, 0) := by decide +kernel
theorem op74_97 : rn_op 74 97 = some (.aload_n 0, 1, 0, 0, 0) := by decide +kernel
theorem op74_98 : rn_op 74 98 = some (.getfield 18, 3, 9, 5, 3) := by decide +kernel
theorem op74_101 : rn_op 74 101 = some (.aload_n 0, 1, 0, 0, 0) := by decide +kernel
theorem op74_102 : rn_op 74 102 = some (.getfield 41, 3, 9, 2, 0) := by decide +kernel
theorem op74_105 : rn_op 74 105 = some (.iload_n 3, 1, 0, 0, 0) := by decide +kernel
theorem op74_106 : rn_op 74 106 = some (.iastore, 1, 0, 0, 0) := by decide +kernel
theorem op74_107 : rn_op 74 107 = some (.aload_n 0, 1, 0, 0, 0) := by decide +kernel
theorem op74_108 : rn_op 74 108 = some (.getfield 21, 3, 9, 6, 3) := by decide +kernel
theorem op74_111 : rn_op 74 111 = some (.aload_n 0, 1, 0, 0, 0) := by decide +kernel
theorem op74_112 : rn_op 74 112 = some (.getfield 41, 3, 9, 2, 0) := by decide +kernel
theorem op74_115 : rn_op 74 115 = some (.iload 4, 2, 0, 0, 0) := by decide +kernel
theorem op74_117 : rn_op 74 117 = some (.iastore, 1, 0, 0, 0) := by decide +kernel
theorem op74_118 : rn_op 74 118 = some (.aload_n 0, 1, 0, 0, 0) := by decide +kernel
theorem op74_119 : rn_op 74 119 = some (.getfield 24, 3, 9, 7, 3) := by decide +kernel
theorem op74_122 : rn_op 74 122 = some (.aload_n 0, 1, 0, 0, 0) := by decide +kernel
theorem op74_123 : rn_op 74 123 = some (.getfield 41, 3, 9, 2, 0) := by decide +kernel
theorem op74_126 : rn_op 74 126 = some (.iconst 0, 1, 0, 0, 0) := by decide +kernel
theorem op74_127 : rn_op 74 127 = some (.iastore, 1, 0, 0, 0) := by decide +kernel
theorem op74_128 : rn_op 74 128 = some (.aload_n 0, 1, 0, 0, 0) := by decide +kernel
theorem op74_129 : rn_op 74 129 = some (.getfield 27, 3, 9, 8, 3) := by decide +kernel
theorem op74_132 : rn_op 74 132 = some (.aload_n 0, 1, 0, 0, 0) := by decide +kernel
theorem op74_133 : rn_op 74 133 = some (.getfield 41, 3, 9, 2, 0) := by decide +kernel
theorem op74_136 : rn_op 74 136 = some (.lconst 0, 1, 0, 0, 0) := by decide +kernel
theorem op74_137 : rn_op 74 137 = some (.lastore, 1, 0, 0, 0) := by decide +kernel
theorem op74_138 : rn_op 74 138 = some (.aload_n 0, 1, 0, 0, 0) := by decide +kernel
theorem op74_139 : rn_op 74 139 = some (.getfield 31, 3, 9, 9, 3) := by decide +kernel
theorem op74_142 : rn_op 74 142 = some (.aload_n 0, 1, 0, 0, 0) := by decide +kernel
theorem op74_143 : rn_op 74 143 = some (.getfield 41, 3, 9, 2, 0) := by decide +kernel
theorem op74_146 : rn_op 74 146 = some (.ldc 85, 2, 65535, 0, 0) := by decide +kernel
theorem op74_148 : rn_op 74 148 = some (.iastore, 1, 0, 0, 0) := by decide +kernel
theorem op74_149 : rn_op 74 149 = some (.aload_n 0, 1, 0, 0, 0) := by decide +kernel
theorem op74_150 : rn_op 74 150 = some (.dup, 1, 0, 0, 0) := by decide +kernel
theorem op74_151 : rn_op 74 151 = some (.getfield 41, 3, 9, 2, 0) := by decide +kernel
theorem op74_154 : rn_op 74 154 = some (.iconst 1, 1, 0, 0, 0) := by decide +kernel
theorem op74_155 : rn_op 74 155 = some (.iadd, 1, 0, 0, 0) := by decide +kernel
theorem op74_156 : rn_op 74 156 = some (.putfield 41, 3, 9, 2, 0) := by decide +kernel
theorem op74_159 : rn_op 74 159 = some (.aload_n 0, 1, 0, 0, 0) := by decide +kernel
theorem op74_160 : rn_op 74 160 = some (.getfield 41, 3, 9, 2, 0) := by decide +kernel
theorem op74_163 : rn_op 74 163 = some (.iconst 1, 1, 0, 0, 0) := by decide +kernel
theorem op74_164 : rn_op 74 164 = some (.isub, 1, 0, 0, 0) := by decide +kernel
theorem op74_165 : rn_op 74 165 = some (.ireturn, 1, 0, 0, 0) := by decide +kernel
def wa_find_l3 (q0 : Nat) (a1 : Int32) (a2 : Int32) (a3 : Int32) (a4 : Int32) : Nat → Int32 → rn_Mem → Option ((Int32 × rn_Mem) ⊕ (rn_Mem))
  | 0, _, _ => none
  | n + 1, a5, m =>
    if a5 < (m.1 q0 2) then
      if rn_in a5 24 = true then
        if (m.1 (q0 + 1) a5.toNatClampNeg) = a1 then
          if rn_in a5 24 = true then
            if (m.1 (q0 + 2) a5.toNatClampNeg) = a2 then
              if rn_in a5 24 = true then
                if (m.1 (q0 + 3) a5.toNatClampNeg) = a3 then
                  if rn_in a5 24 = true then
                    if (m.1 (q0 + 4) a5.toNatClampNeg) = a4 then
                      some (.inl (a5, m))
                    else
                      (some (a5 + 1)).bind fun (x22 : Int32) =>
                      wa_find_l3 q0 a1 a2 a3 a4 n x22 m
                  else none
                else
                  (some (a5 + 1)).bind fun (x23 : Int32) =>
                  wa_find_l3 q0 a1 a2 a3 a4 n x23 m
              else none
            else
              (some (a5 + 1)).bind fun (x24 : Int32) =>
              wa_find_l3 q0 a1 a2 a3 a4 n x24 m
          else none
        else
          (some (a5 + 1)).bind fun (x25 : Int32) =>
          wa_find_l3 q0 a1 a2 a3 a4 n x25 m
      else none
    else
      some (.inr m)
def wa_find (n : Nat) (q0 : Nat) (a1 : Int32) (a2 : Int32) (a3 : Int32) (a4 : Int32) (m : rn_Mem) : Option (Int32 × rn_Mem) :=
  (wa_find_l3 q0 a1 a2 a3 a4 n 0 m).bind fun q => match q with
  | .inl o => some o
  | .inr m26 =>
  if (m26.1 q0 2) < 24 then
    if rn_in (m26.1 q0 2) 24 = true then
      (some (rm_i m26 (q0 + 1) (m26.1 q0 2).toNatClampNeg a1)).bind fun (m29 : rn_Mem) =>
      if rn_in (m29.1 q0 2) 24 = true then
        (some (rm_i m29 (q0 + 2) (m29.1 q0 2).toNatClampNeg a2)).bind fun (m31 : rn_Mem) =>
        if rn_in (m31.1 q0 2) 24 = true then
          (some (rm_i m31 (q0 + 3) (m31.1 q0 2).toNatClampNeg a3)).bind fun (m33 : rn_Mem) =>
          if rn_in (m33.1 q0 2) 24 = true then
            (some (rm_i m33 (q0 + 4) (m33.1 q0 2).toNatClampNeg a4)).bind fun (m35 : rn_Mem) =>
            if rn_in (m35.1 q0 2) 24 = true then
              (some (rm_i m35 (q0 + 5) (m35.1 q0 2).toNatClampNeg 0)).bind fun (m37 : rn_Mem) =>
              if rn_in (m37.1 q0 2) 24 = true then
                (some (rm_j m37 (q0 + 6) (m37.1 q0 2).toNatClampNeg 0)).bind fun (m39 : rn_Mem) =>
                if rn_in (m39.1 q0 2) 24 = true then
                  (some (rm_i m39 (q0 + 7) (m39.1 q0 2).toNatClampNeg 65535)).bind fun (m41 : rn_Mem) =>
                  (some (rm_i m41 q0 2 ((m41.1 q0 2) + 1))).bind fun (m43 : rn_Mem) =>
                  some ((m43.1 q0 2) - 1, m43)
                else none
              else none
            else none
          else none
        else none
      else none
    else none
  else
    some ((-1), m26)
set_option maxHeartbeats 4000000 in
set_option maxRecDepth 20000 in
theorem wa_find_l3_ok (xs : List Int32) {d : Nat} {q0 : Nat} {a1 : Int32} {a2 : Int32} {a3 : Int32} {a4 : Int32} {r : Option Value} {τ : rn_H} {out : (Int32 × rn_Mem) ⊕ (rn_Mem)} (hl : ∀ (rO : Int32) (mO : rn_Mem), out = .inl (rO, mO) → r = (some (.int rO)) ∧ τ = (rn_SH, mO)) (hr : ∀ (mO : rn_Mem), out = .inr mO → ∀ (o5 : Option Value), rn_R xs d 74 66 [some (.ref q0), some (.int a1), some (.int a2), some (.int a3), some (.int a4), o5] [] (rn_SH, mO) r τ) : ∀ (n : Nat) (a5 : Int32) (m : rn_Mem), sA_Ways q0 → wa_find_l3 q0 a1 a2 a3 a4 n a5 m = some out → rn_R xs d 74 3 [some (.ref q0), some (.int a1), some (.int a2), some (.int a3), some (.int a4), some (.int a5)] [] (rn_SH, m) r τ := by
  intro n
  induction n with
  | zero =>
    intro _ _ _ h
    cases h
  | succ n ih =>
    intro a5 m hq0 h
    unfold wa_find_l3 at h
    try dsimp only at h
    refine rx_p (L2 := [some (.ref q0), some (.int a1), some (.int a2), some (.int a3), some (.int a4), some (.int a5)]) (S2 := [.int a5]) (pc2 := 5) op74_3 rfl rfl ?_
    refine rx_p (L2 := [some (.ref q0), some (.int a1), some (.int a2), some (.int a3), some (.int a4), some (.int a5)]) (S2 := [.ref q0, .int a5]) (pc2 := 6) op74_5 rfl rfl ?_
    refine rx_gf (v := .int (m.1 q0 2)) (pc2 := 9) op74_6 (hq0.1) rfl rfl rfl ?_
    refine ry_ic_ge (tgt := 66) (pc2 := 12) op74_9 (by decide) (by decide) rfl (fun b1 => ?_) (fun b1 => ?_)
    · have h := (if_pos b1).symm.trans h
      refine rx_p (L2 := [some (.ref q0), some (.int a1), some (.int a2), some (.int a3), some (.int a4), some (.int a5)]) (S2 := [.ref q0]) (pc2 := 13) op74_12 rfl rfl ?_
      refine rx_gf (v := .ref (q0 + 1)) (pc2 := 16) op74_13 (hq0.1) rfl rfl rfl ?_
      refine rx_p (L2 := [some (.ref q0), some (.int a1), some (.int a2), some (.int a3), some (.int a4), some (.int a5)]) (S2 := [.int a5, .ref (q0 + 1)]) (pc2 := 18) op74_16 rfl rfl ?_
      obtain ⟨k2, h⟩ := rq_chk h
      refine rx_ia (pc2 := 19) op74_18 (rn_shlt (hq0.2.1)) (hq0.2.1) k2 rfl rfl ?_
      refine rx_p (L2 := [some (.ref q0), some (.int a1), some (.int a2), some (.int a3), some (.int a4), some (.int a5)]) (S2 := [.int a1, .int (m.1 (q0 + 1) a5.toNatClampNeg)]) (pc2 := 20) op74_19 rfl rfl ?_
      refine ry_ic_ne (tgt := 60) (pc2 := 23) op74_20 (by decide) (by decide) rfl (fun b3 => ?_) (fun b3 => ?_)
      · have h := (if_pos b3).symm.trans h
        refine rx_p (L2 := [some (.ref q0), some (.int a1), some (.int a2), some (.int a3), some (.int a4), some (.int a5)]) (S2 := [.ref q0]) (pc2 := 24) op74_23 rfl rfl ?_
        refine rx_gf (v := .ref (q0 + 2)) (pc2 := 27) op74_24 (hq0.1) rfl rfl rfl ?_
        refine rx_p (L2 := [some (.ref q0), some (.int a1), some (.int a2), some (.int a3), some (.int a4), some (.int a5)]) (S2 := [.int a5, .ref (q0 + 2)]) (pc2 := 29) op74_27 rfl rfl ?_
        obtain ⟨k10, h⟩ := rq_chk h
        refine rx_ia (pc2 := 30) op74_29 (rn_shlt (hq0.2.2.1)) (hq0.2.2.1) k10 rfl rfl ?_
        refine rx_p (L2 := [some (.ref q0), some (.int a1), some (.int a2), some (.int a3), some (.int a4), some (.int a5)]) (S2 := [.int a2, .int (m.1 (q0 + 2) a5.toNatClampNeg)]) (pc2 := 31) op74_30 rfl rfl ?_
        refine ry_ic_ne (tgt := 60) (pc2 := 34) op74_31 (by decide) (by decide) rfl (fun b11 => ?_) (fun b11 => ?_)
        · have h := (if_pos b11).symm.trans h
          refine rx_p (L2 := [some (.ref q0), some (.int a1), some (.int a2), some (.int a3), some (.int a4), some (.int a5)]) (S2 := [.ref q0]) (pc2 := 35) op74_34 rfl rfl ?_
          refine rx_gf (v := .ref (q0 + 3)) (pc2 := 38) op74_35 (hq0.1) rfl rfl rfl ?_
          refine rx_p (L2 := [some (.ref q0), some (.int a1), some (.int a2), some (.int a3), some (.int a4), some (.int a5)]) (S2 := [.int a5, .ref (q0 + 3)]) (pc2 := 40) op74_38 rfl rfl ?_
          obtain ⟨k16, h⟩ := rq_chk h
          refine rx_ia (pc2 := 41) op74_40 (rn_shlt (hq0.2.2.2.1)) (hq0.2.2.2.1) k16 rfl rfl ?_
          refine rx_p (L2 := [some (.ref q0), some (.int a1), some (.int a2), some (.int a3), some (.int a4), some (.int a5)]) (S2 := [.int a3, .int (m.1 (q0 + 3) a5.toNatClampNeg)]) (pc2 := 42) op74_41 rfl rfl ?_
          refine ry_ic_ne (tgt := 60) (pc2 := 45) op74_42 (by decide) (by decide) rfl (fun b17 => ?_) (fun b17 => ?_)
          · have h := (if_pos b17).symm.trans h
            refine rx_p (L2 := [some (.ref q0), some (.int a1), some (.int a2), some (.int a3), some (.int a4), some (.int a5)]) (S2 := [.ref q0]) (pc2 := 46) op74_45 rfl rfl ?_
            refine rx_gf (v := .ref (q0 + 4)) (pc2 := 49) op74_46 (hq0.1) rfl rfl rfl ?_
            refine rx_p (L2 := [some (.ref q0), some (.int a1), some (.int a2), some (.int a3), some (.int a4), some (.int a5)]) (S2 := [.int a5, .ref (q0 + 4)]) (pc2 := 51) op74_49 rfl rfl ?_
            obtain ⟨k20, h⟩ := rq_chk h
            refine rx_ia (pc2 := 52) op74_51 (rn_shlt (hq0.2.2.2.2.1)) (hq0.2.2.2.2.1) k20 rfl rfl ?_
            refine rx_p (L2 := [some (.ref q0), some (.int a1), some (.int a2), some (.int a3), some (.int a4), some (.int a5)]) (S2 := [.int a4, .int (m.1 (q0 + 4) a5.toNatClampNeg)]) (pc2 := 54) op74_52 rfl rfl ?_
            refine ry_ic_ne (tgt := 60) (pc2 := 57) op74_54 (by decide) (by decide) rfl (fun b21 => ?_) (fun b21 => ?_)
            · have h := (if_pos b21).symm.trans h
              refine rx_p (L2 := [some (.ref q0), some (.int a1), some (.int a2), some (.int a3), some (.int a4), some (.int a5)]) (S2 := [.int a5]) (pc2 := 59) op74_57 rfl rfl ?_
              cases h
              obtain ⟨rfl, rfl⟩ := hl _ _ rfl
              exact ry_ri op74_59 ms_74 rfl
            · have h := (if_neg b21).symm.trans h
              obtain ⟨x22, ex22, h⟩ := rq_bv h
              refine rx_inc (w := 1) (v := x22) (L2 := [some (.ref q0), some (.int a1), some (.int a2), some (.int a3), some (.int a4), some (.int x22)]) (pc2 := 63) op74_60 rfl (by decide) ex22 rfl rfl ?_
              refine ry_go (tgt := 3) op74_63 (by decide) (by decide) ?_
              exact ih _ _ hq0 h
          · have h := (if_neg b17).symm.trans h
            obtain ⟨x23, ex23, h⟩ := rq_bv h
            refine rx_inc (w := 1) (v := x23) (L2 := [some (.ref q0), some (.int a1), some (.int a2), some (.int a3), some (.int a4), some (.int x23)]) (pc2 := 63) op74_60 rfl (by decide) ex23 rfl rfl ?_
            refine ry_go (tgt := 3) op74_63 (by decide) (by decide) ?_
            exact ih _ _ hq0 h
        · have h := (if_neg b11).symm.trans h
          obtain ⟨x24, ex24, h⟩ := rq_bv h
          refine rx_inc (w := 1) (v := x24) (L2 := [some (.ref q0), some (.int a1), some (.int a2), some (.int a3), some (.int a4), some (.int x24)]) (pc2 := 63) op74_60 rfl (by decide) ex24 rfl rfl ?_
          refine ry_go (tgt := 3) op74_63 (by decide) (by decide) ?_
          exact ih _ _ hq0 h
      · have h := (if_neg b3).symm.trans h
        obtain ⟨x25, ex25, h⟩ := rq_bv h
        refine rx_inc (w := 1) (v := x25) (L2 := [some (.ref q0), some (.int a1), some (.int a2), some (.int a3), some (.int a4), some (.int x25)]) (pc2 := 63) op74_60 rfl (by decide) ex25 rfl rfl ?_
        refine ry_go (tgt := 3) op74_63 (by decide) (by decide) ?_
        exact ih _ _ hq0 h
    · have h := (if_neg b1).symm.trans h
      cases h
      exact hr _ rfl _
set_option maxHeartbeats 4000000 in
set_option maxRecDepth 20000 in
theorem wa_find_ok (xs : List Int32) {d : Nat} (hd : 0 ≤ d) {n : Nat} {q0 : Nat} {a1 : Int32} {a2 : Int32} {a3 : Int32} {a4 : Int32} {m mO : rn_Mem} {rO : Int32} (hq0 : sA_Ways q0) (h : wa_find n q0 a1 a2 a3 a4 m = some (rO, mO)) : rn_R xs d 74 0 (rn_ent 6 [.ref q0, .int a1, .int a2, .int a3, .int a4]) [] (rn_SH, m) (some (.int rO)) (rn_SH, mO) := by
  unfold wa_find at h
  show rn_R xs d 74 0 [some (.ref q0), some (.int a1), some (.int a2), some (.int a3), some (.int a4), none] [] (rn_SH, m) (some (.int rO)) (rn_SH, mO)
  refine rx_ic (v := 0) (pc2 := 1) op74_0 (by decide) rfl ?_
  refine rx_s (L2 := [some (.ref q0), some (.int a1), some (.int a2), some (.int a3), some (.int a4), some (.int 0)]) (pc2 := 3) op74_1 rfl rfl rfl ?_
  obtain ⟨wf44, f44, h⟩ := rq_bind h
  refine wa_find_l3_ok xs (fun v0 m0 eq => ?_) (fun m26 eq => ?_) _ _ _ hq0 f44
  · subst eq
    try dsimp only at h
    cases h
    exact ⟨rfl, rfl⟩
  · subst eq
    try dsimp only at h
    intro o27
    refine rx_p (L2 := [some (.ref q0), some (.int a1), some (.int a2), some (.int a3), some (.int a4), o27]) (S2 := [.ref q0]) (pc2 := 67) op74_66 rfl rfl ?_
    refine rx_gf (v := .int (m26.1 q0 2)) (pc2 := 70) op74_67 (hq0.1) rfl rfl rfl ?_
    refine rx_bp (v := 24) (pc2 := 72) op74_70 (by decide) rfl ?_
    refine ry_ic_lt (tgt := 77) (pc2 := 75) op74_72 (by decide) (by decide) rfl (fun b28 => ?_) (fun b28 => ?_)
    · have h := (if_pos b28).symm.trans h
      refine rx_p (L2 := [some (.ref q0), some (.int a1), some (.int a2), some (.int a3), some (.int a4), o27]) (S2 := [.ref q0]) (pc2 := 78) op74_77 rfl rfl ?_
      refine rx_gf (v := .ref (q0 + 1)) (pc2 := 81) op74_78 (hq0.1) rfl rfl rfl ?_
      refine rx_p (L2 := [some (.ref q0), some (.int a1), some (.int a2), some (.int a3), some (.int a4), o27]) (S2 := [.ref q0, .ref (q0 + 1)]) (pc2 := 82) op74_81 rfl rfl ?_
      refine rx_gf (v := .int (m26.1 q0 2)) (pc2 := 85) op74_82 (hq0.1) rfl rfl rfl ?_
      refine rx_p (L2 := [some (.ref q0), some (.int a1), some (.int a2), some (.int a3), some (.int a4), o27]) (S2 := [.int a1, .int (m26.1 q0 2), .ref (q0 + 1)]) (pc2 := 86) op74_85 rfl rfl ?_
      obtain ⟨k30, h⟩ := rq_chk h
      obtain ⟨m29, em29, h⟩ := rq_bv h
      refine rx_is (m2 := m29) (pc2 := 87) op74_86 (hq0.2.1) k30 rfl em29 rfl ?_
      refine rx_p (L2 := [some (.ref q0), some (.int a1), some (.int a2), some (.int a3), some (.int a4), o27]) (S2 := [.ref q0]) (pc2 := 88) op74_87 rfl rfl ?_
      refine rx_gf (v := .ref (q0 + 2)) (pc2 := 91) op74_88 (hq0.1) rfl rfl rfl ?_
      refine rx_p (L2 := [some (.ref q0), some (.int a1), some (.int a2), some (.int a3), some (.int a4), o27]) (S2 := [.ref q0, .ref (q0 + 2)]) (pc2 := 92) op74_91 rfl rfl ?_
      refine rx_gf (v := .int (m29.1 q0 2)) (pc2 := 95) op74_92 (hq0.1) rfl rfl rfl ?_
      refine rx_p (L2 := [some (.ref q0), some (.int a1), some (.int a2), some (.int a3), some (.int a4), o27]) (S2 := [.int a2, .int (m29.1 q0 2), .ref (q0 + 2)]) (pc2 := 96) op74_95 rfl rfl ?_
      obtain ⟨k32, h⟩ := rq_chk h
      obtain ⟨m31, em31, h⟩ := rq_bv h
      refine rx_is (m2 := m31) (pc2 := 97) op74_96 (hq0.2.2.1) k32 rfl em31 rfl ?_
      refine rx_p (L2 := [some (.ref q0), some (.int a1), some (.int a2), some (.int a3), some (.int a4), o27]) (S2 := [.ref q0]) (pc2 := 98) op74_97 rfl rfl ?_
      refine rx_gf (v := .ref (q0 + 3)) (pc2 := 101) op74_98 (hq0.1) rfl rfl rfl ?_
      refine rx_p (L2 := [some (.ref q0), some (.int a1), some (.int a2), some (.int a3), some (.int a4), o27]) (S2 := [.ref q0, .ref (q0 + 3)]) (pc2 := 102) op74_101 rfl rfl ?_
      refine rx_gf (v := .int (m31.1 q0 2)) (pc2 := 105) op74_102 (hq0.1) rfl rfl rfl ?_
      refine rx_p (L2 := [some (.ref q0), some (.int a1), some (.int a2), some (.int a3), some (.int a4), o27]) (S2 := [.int a3, .int (m31.1 q0 2), .ref (q0 + 3)]) (pc2 := 106) op74_105 rfl rfl ?_
      obtain ⟨k34, h⟩ := rq_chk h
      obtain ⟨m33, em33, h⟩ := rq_bv h
      refine rx_is (m2 := m33) (pc2 := 107) op74_106 (hq0.2.2.2.1) k34 rfl em33 rfl ?_
      refine rx_p (L2 := [some (.ref q0), some (.int a1), some (.int a2), some (.int a3), some (.int a4), o27]) (S2 := [.ref q0]) (pc2 := 108) op74_107 rfl rfl ?_
      refine rx_gf (v := .ref (q0 + 4)) (pc2 := 111) op74_108 (hq0.1) rfl rfl rfl ?_
      refine rx_p (L2 := [some (.ref q0), some (.int a1), some (.int a2), some (.int a3), some (.int a4), o27]) (S2 := [.ref q0, .ref (q0 + 4)]) (pc2 := 112) op74_111 rfl rfl ?_
      refine rx_gf (v := .int (m33.1 q0 2)) (pc2 := 115) op74_112 (hq0.1) rfl rfl rfl ?_
      refine rx_p (L2 := [some (.ref q0), some (.int a1), some (.int a2), some (.int a3), some (.int a4), o27]) (S2 := [.int a4, .int (m33.1 q0 2), .ref (q0 + 4)]) (pc2 := 117) op74_115 rfl rfl ?_
      obtain ⟨k36, h⟩ := rq_chk h
      obtain ⟨m35, em35, h⟩ := rq_bv h
      refine rx_is (m2 := m35) (pc2 := 118) op74_117 (hq0.2.2.2.2.1) k36 rfl em35 rfl ?_
      refine rx_p (L2 := [some (.ref q0), some (.int a1), some (.int a2), some (.int a3), some (.int a4), o27]) (S2 := [.ref q0]) (pc2 := 119) op74_118 rfl rfl ?_
      refine rx_gf (v := .ref (q0 + 5)) (pc2 := 122) op74_119 (hq0.1) rfl rfl rfl ?_
      refine rx_p (L2 := [some (.ref q0), some (.int a1), some (.int a2), some (.int a3), some (.int a4), o27]) (S2 := [.ref q0, .ref (q0 + 5)]) (pc2 := 123) op74_122 rfl rfl ?_
      refine rx_gf (v := .int (m35.1 q0 2)) (pc2 := 126) op74_123 (hq0.1) rfl rfl rfl ?_
      refine rx_ic (v := 0) (pc2 := 127) op74_126 (by decide) rfl ?_
      obtain ⟨k38, h⟩ := rq_chk h
      obtain ⟨m37, em37, h⟩ := rq_bv h
      refine rx_is (m2 := m37) (pc2 := 128) op74_127 (hq0.2.2.2.2.2.1) k38 rfl em37 rfl ?_
      refine rx_p (L2 := [some (.ref q0), some (.int a1), some (.int a2), some (.int a3), some (.int a4), o27]) (S2 := [.ref q0]) (pc2 := 129) op74_128 rfl rfl ?_
      refine rx_gf (v := .ref (q0 + 6)) (pc2 := 132) op74_129 (hq0.1) rfl rfl rfl ?_
      refine rx_p (L2 := [some (.ref q0), some (.int a1), some (.int a2), some (.int a3), some (.int a4), o27]) (S2 := [.ref q0, .ref (q0 + 6)]) (pc2 := 133) op74_132 rfl rfl ?_
      refine rx_gf (v := .int (m37.1 q0 2)) (pc2 := 136) op74_133 (hq0.1) rfl rfl rfl ?_
      refine rx_lc (v := 0) (pc2 := 137) op74_136 (by decide) rfl ?_
      obtain ⟨k40, h⟩ := rq_chk h
      obtain ⟨m39, em39, h⟩ := rq_bv h
      refine rx_ls (m2 := m39) (pc2 := 138) op74_137 (hq0.2.2.2.2.2.2.1) k40 rfl em39 rfl ?_
      refine rx_p (L2 := [some (.ref q0), some (.int a1), some (.int a2), some (.int a3), some (.int a4), o27]) (S2 := [.ref q0]) (pc2 := 139) op74_138 rfl rfl ?_
      refine rx_gf (v := .ref (q0 + 7)) (pc2 := 142) op74_139 (hq0.1) rfl rfl rfl ?_
      refine rx_p (L2 := [some (.ref q0), some (.int a1), some (.int a2), some (.int a3), some (.int a4), o27]) (S2 := [.ref q0, .ref (q0 + 7)]) (pc2 := 143) op74_142 rfl rfl ?_
      refine rx_gf (v := .int (m39.1 q0 2)) (pc2 := 146) op74_143 (hq0.1) rfl rfl rfl ?_
      refine rx_ld (v := 65535) (pc2 := 148) op74_146 (by decide) rfl ?_
      obtain ⟨k42, h⟩ := rq_chk h
      obtain ⟨m41, em41, h⟩ := rq_bv h
      refine rx_is (m2 := m41) (pc2 := 149) op74_148 (hq0.2.2.2.2.2.2.2) k42 rfl em41 rfl ?_
      refine rx_p (L2 := [some (.ref q0), some (.int a1), some (.int a2), some (.int a3), some (.int a4), o27]) (S2 := [.ref q0]) (pc2 := 150) op74_149 rfl rfl ?_
      refine rx_p (L2 := [some (.ref q0), some (.int a1), some (.int a2), some (.int a3), some (.int a4), o27]) (S2 := [.ref q0, .ref q0]) (pc2 := 151) op74_150 rfl rfl ?_
      refine rx_gf (v := .int (m41.1 q0 2)) (pc2 := 154) op74_151 (hq0.1) rfl rfl rfl ?_
      refine rx_ic (v := 1) (pc2 := 155) op74_154 (by decide) rfl ?_
      refine rx_p (L2 := [some (.ref q0), some (.int a1), some (.int a2), some (.int a3), some (.int a4), o27]) (S2 := [.int ((m41.1 q0 2) + 1), .ref q0]) (pc2 := 156) op74_155 rfl rfl ?_
      obtain ⟨m43, em43, h⟩ := rq_bv h
      refine rx_pf (m2 := m43) (pc2 := 159) op74_156 (hq0.1) rfl em43 rfl ?_
      refine rx_p (L2 := [some (.ref q0), some (.int a1), some (.int a2), some (.int a3), some (.int a4), o27]) (S2 := [.ref q0]) (pc2 := 160) op74_159 rfl rfl ?_
      refine rx_gf (v := .int (m43.1 q0 2)) (pc2 := 163) op74_160 (hq0.1) rfl rfl rfl ?_
      refine rx_ic (v := 1) (pc2 := 164) op74_163 (by decide) rfl ?_
      refine rx_p (L2 := [some (.ref q0), some (.int a1), some (.int a2), some (.int a3), some (.int a4), o27]) (S2 := [.int ((m43.1 q0 2) - 1)]) (pc2 := 165) op74_164 rfl rfl ?_
      obtain ⟨rfl, rfl⟩ := rq_ret h
      exact ry_ri op74_165 ms_74 rfl
    · have h := (if_neg b28).symm.trans h
      refine rx_ic (v := (-1)) (pc2 := 76) op74_75 (by decide) rfl ?_
      obtain ⟨rfl, rfl⟩ := rq_ret h
      exact ry_ri op74_76 ms_74 rfl
