/-! lt_best -/
theorem op125_0 : rn_op 125 0 = some (.iload_n 1, 1, 0, 0, 0) := by decide +kernel
theorem op125_1 : rn_op 125 1 = some (.ifCond .lt 9, 3, 0, 0, 0) := by decide +kernel
theorem op125_4 : rn_op 125 4 = some (.iload_n 1, 1, 0, 0, 0) := by decide +kernel
theorem op125_5 : rn_op 125 5 = some (.bipush 12, 2, 0, 0, 0) := by decide +kernel
theorem op125_7 : rn_op 125 7 = some (.if_icmp .le 5, 3, 0, 0, 0) := by decide +kernel
theorem op125_10 : rn_op 125 10 = some (.iconst (-1), 1, 0, 0, 0) := by decide +kernel
theorem op125_11 : rn_op 125 11 = some (.ireturn, 1, 0, 0, 0) := by decide +kernel
theorem op125_12 : rn_op 125 12 = some (.aload_n 0, 1, 0, 0, 0) := by decide +kernel
theorem op125_13 : rn_op 125 13 = some (.getfield 19, 3, 10, 1, 3) := by decide +kernel
theorem op125_16 : rn_op 125 16 = some (.getfield 125, 3, 6, 3, 3) := by decide +kernel
theorem op125_19 : rn_op 125 19 = some (.getfield 129, 3, 3, 0, 2) := by decide +kernel
theorem op125_22 : rn_op 125 22 = some (.ifCond .ne 6, 3, 0, 0, 0) := by decide +kernel
theorem op125_25 : rn_op 125 25 = some (.bipush (-2), 2, 0, 0, 0) := by decide +kernel
theorem op125_27 : rn_op 125 27 = some (.ireturn, 1, 0, 0, 0) := by decide +kernel
theorem op125_28 : rn_op 125 28 = some (.iload_n 1, 1, 0, 0, 0) := by decide +kernel
theorem op125_29 : rn_op 125 29 = some (.aload_n 0, 1, 0, 0, 0) := by decide +kernel
theorem op125_30 : rn_op 125 30 = some (.getfield 19, 3, 10, 1, 3) := by decide +kernel
theorem op125_33 : rn_op 125 33 = some (.getfield 62, 3, 6, 0, 3) := by decide +kernel
theorem op125_36 : rn_op 125 36 = some (.invokevirtual 84, 3, 23, 1, 1) := by decide +kernel
theorem op125_39 : rn_op 125 39 = some (.if_icmp .le 5, 3, 0, 0, 0) := by decide +kernel
theorem op125_42 : rn_op 125 42 = some (.iconst (-1), 1, 0, 0, 0) := by decide +kernel
theorem op125_43 : rn_op 125 43 = some (.ireturn, 1, 0, 0, 0) := by decide +kernel
theorem op125_44 : rn_op 125 44 = some (.aload_n 0, 1, 0, 0, 0) := by decide +kernel
theorem op125_45 : rn_op 125 45 = some (.getfield 39, 3, 10, 5, 3) := by decide +kernel
theorem op125_48 : rn_op 125 48 = some (.aload_n 0, 1, 0, 0, 0) := by decide +kernel
theorem op125_49 : rn_op 125 49 = some (.getfield 19, 3, 10, 1, 3) := by decide +kernel
theorem op125_52 : rn_op 125 52 = some (.getfield 62, 3, 6, 0, 3) := by decide +kernel
theorem op125_55 : rn_op 125 55 = some (.aload_n 0, 1, 0, 0, 0) := by decide +kernel
theorem op125_56 : rn_op 125 56 = some (.getfield 19, 3, 10, 1, 3) := by decide +kernel
theorem op125_59 : rn_op 125 59 = some (.getfield 125, 3, 6, 3, 3) := by decide +kernel
theorem op125_62 : rn_op 125 62 = some (.iload_n 1, 1, 0, 0, 0) := by decide +kernel
theorem op125_63 : rn_op 125 63 = some (.invokevirtual 286, 3, 126, 4, 2) := by decide +kernel
theorem op125_66 : rn_op 125 66 = some (.ireturn, 1, 0, 0, 0) := by decide +kernel
def lt_best (n : Nat) (a1 : Int32) (m : rn_Mem) : Option (Int32 × rn_Mem) :=
  if a1 < 0 then
    some ((-1), m)
  else
    if 12 < a1 then
      some ((-1), m)
    else
      if (m.1 14 0) = 0 then
        some ((-2), m)
      else
        (ga_cards n 4 m).bind fun (r5, m4) =>
        if r5 < a1 then
          some ((-1), m4)
        else
          (ju_reachFrom n 4 14 a1 m4).bind fun (r9, m8) =>
          some (r9, m8)
set_option maxHeartbeats 4000000 in
set_option maxRecDepth 20000 in
theorem lt_best_ok (xs : List Int32) {d : Nat} (hd : 39 ≤ d) {n : Nat} {a1 : Int32} {m mO : rn_Mem} {rO : Int32} (h : lt_best n a1 m = some (rO, mO)) : rn_R xs d 125 0 (rn_ent 2 [.ref 0, .int a1]) [] (rn_SH, m) (some (.int rO)) (rn_SH, mO) := by
  obtain ⟨d, rfl⟩ : ∃ e, d = e + 1 := ⟨d - 1, by omega⟩
  unfold lt_best at h
  show rn_R xs (d + 1) 125 0 [some (.ref 0), some (.int a1)] [] (rn_SH, m) (some (.int rO)) (rn_SH, mO)
  refine rx_p (L2 := [some (.ref 0), some (.int a1)]) (S2 := [.int a1]) (pc2 := 1) op125_0 rfl rfl ?_
  refine ry_if_lt (tgt := 10) (pc2 := 4) op125_1 (by decide) (by decide) rfl (fun b1 => ?_) (fun b1 => ?_)
  · have h := (if_pos b1).symm.trans h
    refine rx_ic (v := (-1)) (pc2 := 11) op125_10 (by decide) rfl ?_
    obtain ⟨rfl, rfl⟩ := rq_ret h
    exact ry_ri op125_11 ms_125 rfl
  · have h := (if_neg b1).symm.trans h
    refine rx_p (L2 := [some (.ref 0), some (.int a1)]) (S2 := [.int a1]) (pc2 := 5) op125_4 rfl rfl ?_
    refine rx_bp (v := 12) (pc2 := 7) op125_5 (by decide) rfl ?_
    refine ry_ic_le (tgt := 12) (pc2 := 10) op125_7 (by decide) (by decide) rfl (fun b2 => ?_) (fun b2 => ?_)
    · have h := (if_pos b2).symm.trans h
      refine rx_ic (v := (-1)) (pc2 := 11) op125_10 (by decide) rfl ?_
      obtain ⟨rfl, rfl⟩ := rq_ret h
      exact ry_ri op125_11 ms_125 rfl
    · have h := (if_neg b2).symm.trans h
      refine rx_p (L2 := [some (.ref 0), some (.int a1)]) (S2 := [.ref 0]) (pc2 := 13) op125_12 rfl rfl ?_
      refine rx_gf (v := .ref 3) (pc2 := 16) op125_13 sp_0 rfl rfl rfl ?_
      refine rx_gf (v := .ref 14) (pc2 := 19) op125_16 sp_3 rfl rfl rfl ?_
      refine rx_gf (v := .int (m.1 14 0)) (pc2 := 22) op125_19 sp_14 rfl rfl rfl ?_
      refine ry_if_ne (tgt := 28) (pc2 := 25) op125_22 (by decide) (by decide) rfl (fun b3 => ?_) (fun b3 => ?_)
      · have h := (if_pos b3).symm.trans h
        refine rx_bp (v := (-2)) (pc2 := 27) op125_25 (by decide) rfl ?_
        obtain ⟨rfl, rfl⟩ := rq_ret h
        exact ry_ri op125_27 ms_125 rfl
      · have h := (if_neg b3).symm.trans h
        refine rx_p (L2 := [some (.ref 0), some (.int a1)]) (S2 := [.int a1]) (pc2 := 29) op125_28 rfl rfl ?_
        refine rx_p (L2 := [some (.ref 0), some (.int a1)]) (S2 := [.ref 0, .int a1]) (pc2 := 30) op125_29 rfl rfl ?_
        refine rx_gf (v := .ref 3) (pc2 := 33) op125_30 sp_0 rfl rfl rfl ?_
        refine rx_gf (v := .ref 4) (pc2 := 36) op125_33 sp_3 rfl rfl rfl ?_
        obtain ⟨⟨r5, m4⟩, f6, h⟩ := rq_bind h
        try dsimp only at h
        refine ry_iv (p := 4) (vs := []) (T := [.int a1]) (pc2 := 39) op125_36 ms_23 (by decide) rfl rfl (Nat.le_of_ble_eq_true rfl) (Nat.le_of_ble_eq_true rfl) sp_4 (ga_cards_ok xs (by omega) sa_4 f6) rfl ?_
        show rn_R _ _ _ _ _ [.int r5, .int a1] _ _ _
        refine ry_ic_le (tgt := 44) (pc2 := 42) op125_39 (by decide) (by decide) rfl (fun b7 => ?_) (fun b7 => ?_)
        · have h := (if_pos b7).symm.trans h
          refine rx_ic (v := (-1)) (pc2 := 43) op125_42 (by decide) rfl ?_
          obtain ⟨rfl, rfl⟩ := rq_ret h
          exact ry_ri op125_43 ms_125 rfl
        · have h := (if_neg b7).symm.trans h
          refine rx_p (L2 := [some (.ref 0), some (.int a1)]) (S2 := [.ref 0]) (pc2 := 45) op125_44 rfl rfl ?_
          refine rx_gf (v := .ref 102) (pc2 := 48) op125_45 sp_0 rfl rfl rfl ?_
          refine rx_p (L2 := [some (.ref 0), some (.int a1)]) (S2 := [.ref 0, .ref 102]) (pc2 := 49) op125_48 rfl rfl ?_
          refine rx_gf (v := .ref 3) (pc2 := 52) op125_49 sp_0 rfl rfl rfl ?_
          refine rx_gf (v := .ref 4) (pc2 := 55) op125_52 sp_3 rfl rfl rfl ?_
          refine rx_p (L2 := [some (.ref 0), some (.int a1)]) (S2 := [.ref 0, .ref 4, .ref 102]) (pc2 := 56) op125_55 rfl rfl ?_
          refine rx_gf (v := .ref 3) (pc2 := 59) op125_56 sp_0 rfl rfl rfl ?_
          refine rx_gf (v := .ref 14) (pc2 := 62) op125_59 sp_3 rfl rfl rfl ?_
          refine rx_p (L2 := [some (.ref 0), some (.int a1)]) (S2 := [.int a1, .ref 14, .ref 4, .ref 102]) (pc2 := 63) op125_62 rfl rfl ?_
          obtain ⟨⟨r9, m8⟩, f10, h⟩ := rq_bind h
          try dsimp only at h
          refine ry_iv (p := 102) (vs := [.ref 4, .ref 14, .int a1]) (T := []) (pc2 := 66) op125_63 ms_126 (by decide) rfl rfl (Nat.le_of_ble_eq_true rfl) (Nat.le_of_ble_eq_true rfl) sp_102 (ju_reachFrom_ok xs (by omega) sa_4 sa_14 f10) rfl ?_
          show rn_R _ _ _ _ _ [.int r9] _ _ _
          obtain ⟨rfl, rfl⟩ := rq_ret h
          exact ry_ri op125_66 ms_125 rfl
/-! ro_wonAhead -/
theorem op131_0 : rn_op 131 0 = some (.iconst 0, 1, 0, 0, 0) := by decide +kernel
theorem op131_1 : rn_op 131 1 = some (.istore_n 3, 1, 0, 0, 0) := by decide +kernel
theorem op131_2 : rn_op 131 2 = some (.iconst 0, 1, 0, 0, 0) := by decide +kernel
theorem op131_3 : rn_op 131 3 = some (.istore 4, 2, 0, 0, 0) := by decide +kernel
theorem op131_5 : rn_op 131 5 = some (.iload 4, 2, 0, 0, 0) := by decide +kernel
theorem op131_7 : rn_op 131 7 = some (.aload_n 1, 1, 0, 0, 0) := by decide +kernel
theorem op131_8 : rn_op 131 8 = some (.getfield 46, 3, 1, 2, 0) := by decide +kernel
theorem op131_11 : rn_op 131 11 = some (.if_icmp .ge 42, 3, 0, 0, 0) := by decide +kernel
theorem op131_14 : rn_op 131 14 = some (.iload 4, 2, 0, 0, 0) := by decide +kernel
theorem op131_16 : rn_op 131 16 = some (.iconst 1, 1, 0, 0, 0) := by decide +kernel
theorem op131_17 : rn_op 131 17 = some (.iadd, 1, 0, 0, 0) := by decide +kernel
theorem op131_18 : rn_op 131 18 = some (.aload_n 1, 1, 0, 0, 0) := by decide +kernel
theorem op131_19 : rn_op 131 19 = some (.getfield 49, 3, 1, 1, 0) := by decide +kernel
theorem op131_22 : rn_op 131 22 = some (.imul, 1, 0, 0, 0) := by decide +kernel
theorem op131_23 : rn_op 131 23 = some (.iload_n 2, 1, 0, 0, 0) := by decide +kernel
theorem op131_24 : rn_op 131 24 = some (.if_icmp .gt 23, 3, 0, 0, 0) := by decide +kernel
theorem op131_27 : rn_op 131 27 = some (.aload_n 0, 1, 0, 0, 0) := by decide +kernel
theorem op131_28 : rn_op 131 28 = some (.getfield 18, 3, 3, 4, 3) := by decide +kernel
theorem op131_31 : rn_op 131 31 = some (.iload 4, 2, 0, 0, 0) := by decide +kernel
theorem op131_33 : rn_op 131 33 = some (.aload_n 1, 1, 0, 0, 0) := by decide +kernel
theorem op131_34 : rn_op 131 34 = some (.getfield 49, 3, 1, 1, 0) := by decide +kernel
theorem op131_37 : rn_op 131 37 = some (.imul, 1, 0, 0, 0) := by decide +kernel
theorem op131_38 : rn_op 131 38 = some (.iaload, 1, 0, 0, 0) := by decide +kernel
theorem op131_39 : rn_op 131 39 = some (.iconst 2, 1, 0, 0, 0) := by decide +kernel
theorem op131_40 : rn_op 131 40 = some (.irem, 1, 0, 0, 0) := by decide +kernel
theorem op131_41 : rn_op 131 41 = some (.ifCond .ne 6, 3, 0, 0, 0) := by decide +kernel
theorem op131_44 : rn_op 131 44 = some (.iinc 3 1, 3, 0, 0, 0) := by decide +kernel
theorem op131_47 : rn_op 131 47 = some (.iinc 4 1, 3, 0, 0, 0) := by decide +kernel
theorem op131_50 : rn_op 131 50 = some (.goto (-45), 3, 0, 0, 0) := by decide +kernel
theorem op131_53 : rn_op 131 53 = some (.iload_n 3, 1, 0, 0, 0) := by decide +kernel
theorem op131_54 : rn_op 131 54 = some (.ireturn, 1, 0, 0, 0) := by decide +kernel
def ro_wonAhead_l5 (q0 : Nat) (q1 : Nat) (a2 : Int32) : Nat → Int32 → Int32 → rn_Mem → Option (Int32 × rn_Mem)
  | 0, _, _, _ => none
  | n + 1, a3, a4, m =>
    if a4 < (m.1 q1 2) then
      (show Option (Int32) from
        if a2 < ((a4 + 1) * (m.1 q1 1)) then
          some (a3)
        else
          if rn_in (a4 * (m.1 q1 1)) 12 = true then
            if (rn_rem (m.1 (q0 + 3) (a4 * (m.1 q1 1)).toNatClampNeg) 2) = 0 then
              (some (a3 + 1)).bind fun (x5 : Int32) =>
              some (x5)
            else
              some (a3)
          else none).bind fun x6 =>
      (some (a4 + 1)).bind fun (x7 : Int32) =>
      ro_wonAhead_l5 q0 q1 a2 n x6 x7 m
    else
      some (a3, m)
def ro_wonAhead (n : Nat) (q0 : Nat) (q1 : Nat) (a2 : Int32) (m : rn_Mem) : Option (Int32 × rn_Mem) :=
  (ro_wonAhead_l5 q0 q1 a2 n 0 0 m).bind fun (x13, m9) =>
  some (x13, m9)
set_option maxHeartbeats 4000000 in
set_option maxRecDepth 20000 in
theorem ro_wonAhead_l5_ok (xs : List Int32) {d : Nat} {q0 : Nat} {q1 : Nat} {a2 : Int32} {r : Option Value} {τ : rn_H} {out : Int32 × rn_Mem} (hr : ∀ (z3 : Int32) (mO : rn_Mem), out = (z3, mO) → ∀ (o0 o1 o2 o4 : Option Value), rn_R xs d 131 53 [o0, o1, o2, some (.int z3), o4] [] (rn_SH, mO) r τ) : ∀ (n : Nat) (a3 : Int32) (a4 : Int32) (m : rn_Mem), sA_Row q0 → sA_Game q1 → ro_wonAhead_l5 q0 q1 a2 n a3 a4 m = some out → rn_R xs d 131 5 [some (.ref q0), some (.ref q1), some (.int a2), some (.int a3), some (.int a4)] [] (rn_SH, m) r τ := by
  intro n
  induction n with
  | zero =>
    intro _ _ _ _ _ h
    cases h
  | succ n ih =>
    intro a3 a4 m hq0 hq1 h
    unfold ro_wonAhead_l5 at h
    try dsimp only at h
    refine rx_p (L2 := [some (.ref q0), some (.ref q1), some (.int a2), some (.int a3), some (.int a4)]) (S2 := [.int a4]) (pc2 := 7) op131_5 rfl rfl ?_
    refine rx_p (L2 := [some (.ref q0), some (.ref q1), some (.int a2), some (.int a3), some (.int a4)]) (S2 := [.ref q1, .int a4]) (pc2 := 8) op131_7 rfl rfl ?_
    refine rx_gf (v := .int (m.1 q1 2)) (pc2 := 11) op131_8 hq1 rfl rfl rfl ?_
    refine ry_ic_ge (tgt := 53) (pc2 := 14) op131_11 (by decide) (by decide) rfl (fun b1 => ?_) (fun b1 => ?_)
    · have h := (if_pos b1).symm.trans h
      refine rx_p (L2 := [some (.ref q0), some (.ref q1), some (.int a2), some (.int a3), some (.int a4)]) (S2 := [.int a4]) (pc2 := 16) op131_14 rfl rfl ?_
      refine rx_ic (v := 1) (pc2 := 17) op131_16 (by decide) rfl ?_
      refine rx_p (L2 := [some (.ref q0), some (.ref q1), some (.int a2), some (.int a3), some (.int a4)]) (S2 := [.int (a4 + 1)]) (pc2 := 18) op131_17 rfl rfl ?_
      refine rx_p (L2 := [some (.ref q0), some (.ref q1), some (.int a2), some (.int a3), some (.int a4)]) (S2 := [.ref q1, .int (a4 + 1)]) (pc2 := 19) op131_18 rfl rfl ?_
      refine rx_gf (v := .int (m.1 q1 1)) (pc2 := 22) op131_19 hq1 rfl rfl rfl ?_
      refine rx_p (L2 := [some (.ref q0), some (.ref q1), some (.int a2), some (.int a3), some (.int a4)]) (S2 := [.int ((a4 + 1) * (m.1 q1 1))]) (pc2 := 23) op131_22 rfl rfl ?_
      refine rx_p (L2 := [some (.ref q0), some (.ref q1), some (.int a2), some (.int a3), some (.int a4)]) (S2 := [.int a2, .int ((a4 + 1) * (m.1 q1 1))]) (pc2 := 24) op131_23 rfl rfl ?_
      obtain ⟨x6, gc8, h⟩ := rq_bind h
      try dsimp only at h
      have c8 : ∀ (_ : Unit), rn_R xs d 131 47 [some (.ref q0), some (.ref q1), some (.int a2), some (.int x6), some (.int a4)] [] (rn_SH, m) r τ := by
        intro _
        obtain ⟨x7, ex7, h⟩ := rq_bv h
        refine rx_inc (w := 1) (v := x7) (L2 := [some (.ref q0), some (.ref q1), some (.int a2), some (.int x6), some (.int x7)]) (pc2 := 50) op131_47 rfl (by decide) ex7 rfl rfl ?_
        refine ry_go (tgt := 5) op131_50 (by decide) (by decide) ?_
        exact ih _ _ _ hq0 hq1 h
      refine ry_ic_gt (tgt := 47) (pc2 := 27) op131_24 (by decide) (by decide) rfl (fun b2 => ?_) (fun b2 => ?_)
      · have gc8 := (if_pos b2).symm.trans gc8
        cases gc8
        exact c8 ()
      · have gc8 := (if_neg b2).symm.trans gc8
        refine rx_p (L2 := [some (.ref q0), some (.ref q1), some (.int a2), some (.int a3), some (.int a4)]) (S2 := [.ref q0]) (pc2 := 28) op131_27 rfl rfl ?_
        refine rx_gf (v := .ref (q0 + 3)) (pc2 := 31) op131_28 (hq0.1) rfl rfl rfl ?_
        refine rx_p (L2 := [some (.ref q0), some (.ref q1), some (.int a2), some (.int a3), some (.int a4)]) (S2 := [.int a4, .ref (q0 + 3)]) (pc2 := 33) op131_31 rfl rfl ?_
        refine rx_p (L2 := [some (.ref q0), some (.ref q1), some (.int a2), some (.int a3), some (.int a4)]) (S2 := [.ref q1, .int a4, .ref (q0 + 3)]) (pc2 := 34) op131_33 rfl rfl ?_
        refine rx_gf (v := .int (m.1 q1 1)) (pc2 := 37) op131_34 hq1 rfl rfl rfl ?_
        refine rx_p (L2 := [some (.ref q0), some (.ref q1), some (.int a2), some (.int a3), some (.int a4)]) (S2 := [.int (a4 * (m.1 q1 1)), .ref (q0 + 3)]) (pc2 := 38) op131_37 rfl rfl ?_
        obtain ⟨k3, gc8⟩ := rq_chk gc8
        refine rx_ia (pc2 := 39) op131_38 (rn_shlt (hq0.2.2.2.1)) (hq0.2.2.2.1) k3 rfl rfl ?_
        refine rx_ic (v := 2) (pc2 := 40) op131_39 (by decide) rfl ?_
        refine rx_rem (v := rn_rem (m.1 (q0 + 3) (a4 * (m.1 q1 1)).toNatClampNeg) 2) (pc2 := 41) op131_40 (by decide) rfl rfl ?_
        refine ry_if_ne (tgt := 47) (pc2 := 44) op131_41 (by decide) (by decide) rfl (fun b4 => ?_) (fun b4 => ?_)
        · have gc8 := (if_pos b4).symm.trans gc8
          obtain ⟨x5, ex5, gc8⟩ := rq_bv gc8
          refine rx_inc (w := 1) (v := x5) (L2 := [some (.ref q0), some (.ref q1), some (.int a2), some (.int x5), some (.int a4)]) (pc2 := 47) op131_44 rfl (by decide) ex5 rfl rfl ?_
          cases gc8
          exact c8 ()
        · have gc8 := (if_neg b4).symm.trans gc8
          cases gc8
          exact c8 ()
    · have h := (if_neg b1).symm.trans h
      cases h
      exact hr _ _ rfl _ _ _ _
set_option maxHeartbeats 4000000 in
set_option maxRecDepth 20000 in
theorem ro_wonAhead_ok (xs : List Int32) {d : Nat} (hd : 0 ≤ d) {n : Nat} {q0 : Nat} {q1 : Nat} {a2 : Int32} {m mO : rn_Mem} {rO : Int32} (hq0 : sA_Row q0) (hq1 : sA_Game q1) (h : ro_wonAhead n q0 q1 a2 m = some (rO, mO)) : rn_R xs d 131 0 (rn_ent 5 [.ref q0, .ref q1, .int a2]) [] (rn_SH, m) (some (.int rO)) (rn_SH, mO) := by
  unfold ro_wonAhead at h
  show rn_R xs d 131 0 [some (.ref q0), some (.ref q1), some (.int a2), none, none] [] (rn_SH, m) (some (.int rO)) (rn_SH, mO)
  refine rx_ic (v := 0) (pc2 := 1) op131_0 (by decide) rfl ?_
  refine rx_s (L2 := [some (.ref q0), some (.ref q1), some (.int a2), some (.int 0), none]) (pc2 := 2) op131_1 rfl rfl rfl ?_
  refine rx_ic (v := 0) (pc2 := 3) op131_2 (by decide) rfl ?_
  refine rx_s (L2 := [some (.ref q0), some (.ref q1), some (.int a2), some (.int 0), some (.int 0)]) (pc2 := 5) op131_3 rfl rfl rfl ?_
  obtain ⟨wf15, f15, h⟩ := rq_bind h
  refine ro_wonAhead_l5_ok xs (fun x13 m9 eq => ?_) _ _ _ _ hq0 hq1 f15
  subst eq
  try dsimp only at h
  intro o10 o11 o12 o14
  refine rx_p (L2 := [o10, o11, o12, some (.int x13), o14]) (S2 := [.int x13]) (pc2 := 54) op131_53 rfl rfl ?_
  obtain ⟨rfl, rfl⟩ := rq_ret h
  exact ry_ri op131_54 ms_131 rfl
/-! lt_falls -/
theorem op130_0 : rn_op 130 0 = some (.iload_n 1, 1, 0, 0, 0) := by decide +kernel
theorem op130_1 : rn_op 130 1 = some (.ifCond .lt 9, 3, 0, 0, 0) := by decide +kernel
theorem op130_4 : rn_op 130 4 = some (.iload_n 1, 1, 0, 0, 0) := by decide +kernel
theorem op130_5 : rn_op 130 5 = some (.bipush 12, 2, 0, 0, 0) := by decide +kernel
theorem op130_7 : rn_op 130 7 = some (.if_icmp .lt 5, 3, 0, 0, 0) := by decide +kernel
theorem op130_10 : rn_op 130 10 = some (.iconst (-1), 1, 0, 0, 0) := by decide +kernel
theorem op130_11 : rn_op 130 11 = some (.ireturn, 1, 0, 0, 0) := by decide +kernel
theorem op130_12 : rn_op 130 12 = some (.aload_n 0, 1, 0, 0, 0) := by decide +kernel
theorem op130_13 : rn_op 130 13 = some (.getfield 19, 3, 10, 1, 3) := by decide +kernel
theorem op130_16 : rn_op 130 16 = some (.getfield 125, 3, 6, 3, 3) := by decide +kernel
theorem op130_19 : rn_op 130 19 = some (.getfield 129, 3, 3, 0, 2) := by decide +kernel
theorem op130_22 : rn_op 130 22 = some (.ifCond .ne 6, 3, 0, 0, 0) := by decide +kernel
theorem op130_25 : rn_op 130 25 = some (.bipush (-2), 2, 0, 0, 0) := by decide +kernel
theorem op130_27 : rn_op 130 27 = some (.ireturn, 1, 0, 0, 0) := by decide +kernel
theorem op130_28 : rn_op 130 28 = some (.iload_n 1, 1, 0, 0, 0) := by decide +kernel
theorem op130_29 : rn_op 130 29 = some (.aload_n 0, 1, 0, 0, 0) := by decide +kernel
theorem op130_30 : rn_op 130 30 = some (.getfield 19, 3, 10, 1, 3) := by decide +kernel
theorem op130_33 : rn_op 130 33 = some (.getfield 62, 3, 6, 0, 3) := by decide +kernel
theorem op130_36 : rn_op 130 36 = some (.invokevirtual 84, 3, 23, 1, 1) := by decide +kernel
theorem op130_39 : rn_op 130 39 = some (.if_icmp .lt 5, 3, 0, 0, 0) := by decide +kernel
theorem op130_42 : rn_op 130 42 = some (.iconst (-1), 1, 0, 0, 0) := by decide +kernel
theorem op130_43 : rn_op 130 43 = some (.ireturn, 1, 0, 0, 0) := by decide +kernel
theorem op130_44 : rn_op 130 44 = some (.aload_n 0, 1, 0, 0, 0) := by decide +kernel
theorem op130_45 : rn_op 130 45 = some (.getfield 19, 3, 10, 1, 3) := by decide +kernel
theorem op130_48 : rn_op 130 48 = some (.getfield 125, 3, 6, 3, 3) := by decide +kernel
theorem op130_51 : rn_op 130 51 = some (.aload_n 0, 1, 0, 0, 0) := by decide +kernel
theorem op130_52 : rn_op 130 52 = some (.getfield 19, 3, 10, 1, 3) := by decide +kernel
theorem op130_55 : rn_op 130 55 = some (.getfield 62, 3, 6, 0, 3) := by decide +kernel
theorem op130_58 : rn_op 130 58 = some (.iload_n 1, 1, 0, 0, 0) := by decide +kernel
theorem op130_59 : rn_op 130 59 = some (.invokevirtual 290, 3, 131, 3, 3) := by decide +kernel
theorem op130_62 : rn_op 130 62 = some (.aload_n 0, 1, 0, 0, 0) := by decide +kernel
theorem op130_63 : rn_op 130 63 = some (.getfield 39, 3, 10, 5, 3) := by decide +kernel
theorem op130_66 : rn_op 130 66 = some (.aload_n 0, 1, 0, 0, 0) := by decide +kernel
theorem op130_67 : rn_op 130 67 = some (.getfield 19, 3, 10, 1, 3) := by decide +kernel
theorem op130_70 : rn_op 130 70 = some (.getfield 62, 3, 6, 0, 3) := by decide +kernel
theorem op130_73 : rn_op 130 73 = some (.aload_n 0, 1, 0, 0, 0) := by decide +kernel
theorem op130_74 : rn_op 130 74 = some (.getfield 19, 3, 10, 1, 3) := by decide +kernel
theorem op130_77 : rn_op 130 77 = some (.getfield 125, 3, 6, 3, 3) := by decide +kernel
theorem op130_80 : rn_op 130 80 = some (.iload_n 1, 1, 0, 0, 0) := by decide +kernel
theorem op130_81 : rn_op 130 81 = some (.invokevirtual 286, 3, 126, 4, 2) := by decide +kernel
theorem op130_84 : rn_op 130 84 = some (.iadd, 1, 0, 0, 0) := by decide +kernel
theorem op130_85 : rn_op 130 85 = some (.istore_n 2, 1, 0, 0, 0) := by decide +kernel
theorem op130_86 : rn_op 130 86 = some (.aload_n 0, 1, 0, 0, 0) := by decide +kernel
theorem op130_87 : rn_op 130 87 = some (.getfield 19, 3, 10, 1, 3) := by decide +kernel
theorem op130_90 : rn_op 130 90 = some (.getfield 125, 3, 6, 3, 3) := by decide +kernel
theorem op130_93 : rn_op 130 93 = some (.aload_n 0, 1, 0, 0, 0) := by decide +kernel
theorem op130_94 : rn_op 130 94 = some (.getfield 19, 3, 10, 1, 3) := by decide +kernel
theorem op130_97 : rn_op 130 97 = some (.getfield 62, 3, 6, 0, 3) := by decide +kernel
theorem op130_100 : rn_op 130 100 = some (.iload_n 1, 1, 0, 0, 0) := by decide +kernel
theorem op130_101 : rn_op 130 101 = some (.iconst 1, 1, 0, 0, 0) := by decide +kernel
theorem op130_102 : rn_op 130 102 = some (.iadd, 1, 0, 0, 0) := by decide +kernel
theorem op130_103 : rn_op 130 103 = some (.invokevirtual 290, 3, 131, 3, 3) := by decide +kernel
theorem op130_106 : rn_op 130 106 = some (.aload_n 0, 1, 0, 0, 0) := by decide +kernel
theorem op130_107 : rn_op 130 107 = some (.getfield 39, 3, 10, 5, 3) := by decide +kernel
theorem op130_110 : rn_op 130 110 = some (.aload_n 0, 1, 0, 0, 0) := by decide +kernel
theorem op130_111 : rn_op 130 111 = some (.getfield 19, 3, 10, 1, 3) := by decide +kernel
theorem op130_114 : rn_op 130 114 = some (.getfield 62, 3, 6, 0, 3) := by decide +kernel
theorem op130_117 : rn_op 130 117 = some (.aload_n 0, 1, 0, 0, 0) := by decide +kernel
theorem op130_118 : rn_op 130 118 = some (.getfield 19, 3, 10, 1, 3) := by decide +kernel
theorem op130_121 : rn_op 130 121 = some (.getfield 125, 3, 6, 3, 3) := by decide +kernel
theorem op130_124 : rn_op 130 124 = some (.iload_n 1, 1, 0, 0, 0) := by decide +kernel
theorem op130_125 : rn_op 130 125 = some (.iconst 1, 1, 0, 0, 0) := by decide +kernel
theorem op130_126 : rn_op 130 126 = some (.iadd, 1, 0, 0, 0) := by decide +kernel
theorem op130_127 : rn_op 130 127 = some (.invokevirtual 286, 3, 126, 4, 2) := by decide +kernel
theorem op130_130 : rn_op 130 130 = some (.iadd, 1, 0, 0, 0) := by decide +kernel
theorem op130_131 : rn_op 130 131 = some (.istore_n 3, 1, 0, 0, 0) := by decide +kernel
theorem op130_132 : rn_op 130 132 = some (.aload_n 0, 1, 0, 0, 0) := by decide +kernel
theorem op130_133 : rn_op 130 133 = some (.getfield 19, 3, 10, 1, 3) := by decide +kernel
theorem op130_136 : rn_op 130 136 = some (.getfield 125, 3, 6, 3, 3) := by decide +kernel
theorem op130_139 : rn_op 130 139 = some (.getfield 281, 3, 3, 3, 3) := by decide +kernel
theorem op130_142 : rn_op 130 142 = some (.iload_n 1, 1, 0, 0, 0) := by decide +kernel
theorem op130_143 : rn_op 130 143 = some (.iaload, 1, 0, 0, 0) := by decide +kernel
theorem op130_144 : rn_op 130 144 = some (.iconst 2, 1, 0, 0, 0) := by decide +kernel
theorem op130_145 : rn_op 130 145 = some (.irem, 1, 0, 0, 0) := by decide +kernel
theorem op130_146 : rn_op 130 146 = some (.ifCond .ne 9, 3, 0, 0, 0) := by decide +kernel
theorem op130_149 : rn_op 130 149 = some (.iload_n 2, 1, 0, 0, 0) := by decide +kernel
theorem op130_150 : rn_op 130 150 = some (.iload_n 3, 1, 0, 0, 0) := by decide +kernel
theorem op130_151 : rn_op 130 151 = some (.isub, 1, 0, 0, 0) := by decide +kernel
theorem op130_152 : rn_op 130 152 = some (.goto 6, 3, 0, 0, 0) := by decide +kernel
theorem op130_155 : rn_op 130 155 = some (.iload_n 3, 1, 0, 0, 0) := by decide +kernel
theorem op130_156 : rn_op 130 156 = some (.iload_n 2, 1, 0, 0, 0) := by decide +kernel
theorem op130_157 : rn_op 130 157 = some (.isub, 1, 0, 0, 0) := by decide +kernel
theorem op130_158 : rn_op 130 158 = some (.ireturn, 1, 0, 0, 0) := by decide +kernel
def lt_falls (n : Nat) (a1 : Int32) (m : rn_Mem) : Option (Int32 × rn_Mem) :=
  if a1 < 0 then
    some ((-1), m)
  else
    if a1 < 12 then
      if (m.1 14 0) = 0 then
        some ((-2), m)
      else
        (ga_cards n 4 m).bind fun (r5, m4) =>
        if a1 < r5 then
          (ro_wonAhead n 14 4 a1 m4).bind fun (r9, m8) =>
          (ju_reachFrom n 4 14 a1 m8).bind fun (r12, m11) =>
          (some (r9 + r12)).bind fun (x14 : Int32) =>
          (ro_wonAhead n 14 4 (a1 + 1) m11).bind fun (r16, m15) =>
          (ju_reachFrom n 4 14 (a1 + 1) m15).bind fun (r19, m18) =>
          (some (r16 + r19)).bind fun (x21 : Int32) =>
          if rn_in a1 12 = true then
            if (rn_rem (m18.1 16 a1.toNatClampNeg) 2) = 0 then
              some (x14 - x21, m18)
            else
              some (x21 - x14, m18)
          else none
        else
          some ((-1), m4)
    else
      some ((-1), m)
set_option maxHeartbeats 4000000 in
set_option maxRecDepth 20000 in
theorem lt_falls_ok (xs : List Int32) {d : Nat} (hd : 39 ≤ d) {n : Nat} {a1 : Int32} {m mO : rn_Mem} {rO : Int32} (h : lt_falls n a1 m = some (rO, mO)) : rn_R xs d 130 0 (rn_ent 4 [.ref 0, .int a1]) [] (rn_SH, m) (some (.int rO)) (rn_SH, mO) := by
  obtain ⟨d, rfl⟩ : ∃ e, d = e + 1 := ⟨d - 1, by omega⟩
  unfold lt_falls at h
  show rn_R xs (d + 1) 130 0 [some (.ref 0), some (.int a1), none, none] [] (rn_SH, m) (some (.int rO)) (rn_SH, mO)
  refine rx_p (L2 := [some (.ref 0), some (.int a1), none, none]) (S2 := [.int a1]) (pc2 := 1) op130_0 rfl rfl ?_
  refine ry_if_lt (tgt := 10) (pc2 := 4) op130_1 (by decide) (by decide) rfl (fun b1 => ?_) (fun b1 => ?_)
  · have h := (if_pos b1).symm.trans h
    refine rx_ic (v := (-1)) (pc2 := 11) op130_10 (by decide) rfl ?_
    obtain ⟨rfl, rfl⟩ := rq_ret h
    exact ry_ri op130_11 ms_130 rfl
  · have h := (if_neg b1).symm.trans h
    refine rx_p (L2 := [some (.ref 0), some (.int a1), none, none]) (S2 := [.int a1]) (pc2 := 5) op130_4 rfl rfl ?_
    refine rx_bp (v := 12) (pc2 := 7) op130_5 (by decide) rfl ?_
    refine ry_ic_lt (tgt := 12) (pc2 := 10) op130_7 (by decide) (by decide) rfl (fun b2 => ?_) (fun b2 => ?_)
    · have h := (if_pos b2).symm.trans h
      refine rx_p (L2 := [some (.ref 0), some (.int a1), none, none]) (S2 := [.ref 0]) (pc2 := 13) op130_12 rfl rfl ?_
      refine rx_gf (v := .ref 3) (pc2 := 16) op130_13 sp_0 rfl rfl rfl ?_
      refine rx_gf (v := .ref 14) (pc2 := 19) op130_16 sp_3 rfl rfl rfl ?_
      refine rx_gf (v := .int (m.1 14 0)) (pc2 := 22) op130_19 sp_14 rfl rfl rfl ?_
      refine ry_if_ne (tgt := 28) (pc2 := 25) op130_22 (by decide) (by decide) rfl (fun b3 => ?_) (fun b3 => ?_)
      · have h := (if_pos b3).symm.trans h
        refine rx_bp (v := (-2)) (pc2 := 27) op130_25 (by decide) rfl ?_
        obtain ⟨rfl, rfl⟩ := rq_ret h
        exact ry_ri op130_27 ms_130 rfl
      · have h := (if_neg b3).symm.trans h
        refine rx_p (L2 := [some (.ref 0), some (.int a1), none, none]) (S2 := [.int a1]) (pc2 := 29) op130_28 rfl rfl ?_
        refine rx_p (L2 := [some (.ref 0), some (.int a1), none, none]) (S2 := [.ref 0, .int a1]) (pc2 := 30) op130_29 rfl rfl ?_
        refine rx_gf (v := .ref 3) (pc2 := 33) op130_30 sp_0 rfl rfl rfl ?_
        refine rx_gf (v := .ref 4) (pc2 := 36) op130_33 sp_3 rfl rfl rfl ?_
        obtain ⟨⟨r5, m4⟩, f6, h⟩ := rq_bind h
        try dsimp only at h
        refine ry_iv (p := 4) (vs := []) (T := [.int a1]) (pc2 := 39) op130_36 ms_23 (by decide) rfl rfl (Nat.le_of_ble_eq_true rfl) (Nat.le_of_ble_eq_true rfl) sp_4 (ga_cards_ok xs (by omega) sa_4 f6) rfl ?_
        show rn_R _ _ _ _ _ [.int r5, .int a1] _ _ _
        refine ry_ic_lt (tgt := 44) (pc2 := 42) op130_39 (by decide) (by decide) rfl (fun b7 => ?_) (fun b7 => ?_)
        · have h := (if_pos b7).symm.trans h
          refine rx_p (L2 := [some (.ref 0), some (.int a1), none, none]) (S2 := [.ref 0]) (pc2 := 45) op130_44 rfl rfl ?_
          refine rx_gf (v := .ref 3) (pc2 := 48) op130_45 sp_0 rfl rfl rfl ?_
          refine rx_gf (v := .ref 14) (pc2 := 51) op130_48 sp_3 rfl rfl rfl ?_
          refine rx_p (L2 := [some (.ref 0), some (.int a1), none, none]) (S2 := [.ref 0, .ref 14]) (pc2 := 52) op130_51 rfl rfl ?_
          refine rx_gf (v := .ref 3) (pc2 := 55) op130_52 sp_0 rfl rfl rfl ?_
          refine rx_gf (v := .ref 4) (pc2 := 58) op130_55 sp_3 rfl rfl rfl ?_
          refine rx_p (L2 := [some (.ref 0), some (.int a1), none, none]) (S2 := [.int a1, .ref 4, .ref 14]) (pc2 := 59) op130_58 rfl rfl ?_
          obtain ⟨⟨r9, m8⟩, f10, h⟩ := rq_bind h
          try dsimp only at h
          refine ry_iv (p := 14) (vs := [.ref 4, .int a1]) (T := []) (pc2 := 62) op130_59 ms_131 (by decide) rfl rfl (Nat.le_of_ble_eq_true rfl) (Nat.le_of_ble_eq_true rfl) sp_14 (ro_wonAhead_ok xs (by omega) sa_14 sa_4 f10) rfl ?_
          show rn_R _ _ _ _ _ [.int r9] _ _ _
          refine rx_p (L2 := [some (.ref 0), some (.int a1), none, none]) (S2 := [.ref 0, .int r9]) (pc2 := 63) op130_62 rfl rfl ?_
          refine rx_gf (v := .ref 102) (pc2 := 66) op130_63 sp_0 rfl rfl rfl ?_
          refine rx_p (L2 := [some (.ref 0), some (.int a1), none, none]) (S2 := [.ref 0, .ref 102, .int r9]) (pc2 := 67) op130_66 rfl rfl ?_
          refine rx_gf (v := .ref 3) (pc2 := 70) op130_67 sp_0 rfl rfl rfl ?_
          refine rx_gf (v := .ref 4) (pc2 := 73) op130_70 sp_3 rfl rfl rfl ?_
          refine rx_p (L2 := [some (.ref 0), some (.int a1), none, none]) (S2 := [.ref 0, .ref 4, .ref 102, .int r9]) (pc2 := 74) op130_73 rfl rfl ?_
          refine rx_gf (v := .ref 3) (pc2 := 77) op130_74 sp_0 rfl rfl rfl ?_
          refine rx_gf (v := .ref 14) (pc2 := 80) op130_77 sp_3 rfl rfl rfl ?_
          refine rx_p (L2 := [some (.ref 0), some (.int a1), none, none]) (S2 := [.int a1, .ref 14, .ref 4, .ref 102, .int r9]) (pc2 := 81) op130_80 rfl rfl ?_
          obtain ⟨⟨r12, m11⟩, f13, h⟩ := rq_bind h
          try dsimp only at h
          refine ry_iv (p := 102) (vs := [.ref 4, .ref 14, .int a1]) (T := [.int r9]) (pc2 := 84) op130_81 ms_126 (by decide) rfl rfl (Nat.le_of_ble_eq_true rfl) (Nat.le_of_ble_eq_true rfl) sp_102 (ju_reachFrom_ok xs (by omega) sa_4 sa_14 f13) rfl ?_
          show rn_R _ _ _ _ _ [.int r12, .int r9] _ _ _
          refine rx_p (L2 := [some (.ref 0), some (.int a1), none, none]) (S2 := [.int (r9 + r12)]) (pc2 := 85) op130_84 rfl rfl ?_
          obtain ⟨x14, ex14, h⟩ := rq_bv h
          refine rx_s (v := x14) (L2 := [some (.ref 0), some (.int a1), some (.int x14), none]) (pc2 := 86) op130_85 ex14 rfl rfl ?_
          refine rx_p (L2 := [some (.ref 0), some (.int a1), some (.int x14), none]) (S2 := [.ref 0]) (pc2 := 87) op130_86 rfl rfl ?_
          refine rx_gf (v := .ref 3) (pc2 := 90) op130_87 sp_0 rfl rfl rfl ?_
          refine rx_gf (v := .ref 14) (pc2 := 93) op130_90 sp_3 rfl rfl rfl ?_
          refine rx_p (L2 := [some (.ref 0), some (.int a1), some (.int x14), none]) (S2 := [.ref 0, .ref 14]) (pc2 := 94) op130_93 rfl rfl ?_
          refine rx_gf (v := .ref 3) (pc2 := 97) op130_94 sp_0 rfl rfl rfl ?_
          refine rx_gf (v := .ref 4) (pc2 := 100) op130_97 sp_3 rfl rfl rfl ?_
          refine rx_p (L2 := [some (.ref 0), some (.int a1), some (.int x14), none]) (S2 := [.int a1, .ref 4, .ref 14]) (pc2 := 101) op130_100 rfl rfl ?_
          refine rx_ic (v := 1) (pc2 := 102) op130_101 (by decide) rfl ?_
          refine rx_p (L2 := [some (.ref 0), some (.int a1), some (.int x14), none]) (S2 := [.int (a1 + 1), .ref 4, .ref 14]) (pc2 := 103) op130_102 rfl rfl ?_
          obtain ⟨⟨r16, m15⟩, f17, h⟩ := rq_bind h
          try dsimp only at h
          refine ry_iv (p := 14) (vs := [.ref 4, .int (a1 + 1)]) (T := []) (pc2 := 106) op130_103 ms_131 (by decide) rfl rfl (Nat.le_of_ble_eq_true rfl) (Nat.le_of_ble_eq_true rfl) sp_14 (ro_wonAhead_ok xs (by omega) sa_14 sa_4 f17) rfl ?_
          show rn_R _ _ _ _ _ [.int r16] _ _ _
          refine rx_p (L2 := [some (.ref 0), some (.int a1), some (.int x14), none]) (S2 := [.ref 0, .int r16]) (pc2 := 107) op130_106 rfl rfl ?_
          refine rx_gf (v := .ref 102) (pc2 := 110) op130_107 sp_0 rfl rfl rfl ?_
          refine rx_p (L2 := [some (.ref 0), some (.int a1), some (.int x14), none]) (S2 := [.ref 0, .ref 102, .int r16]) (pc2 := 111) op130_110 rfl rfl ?_
          refine rx_gf (v := .ref 3) (pc2 := 114) op130_111 sp_0 rfl rfl rfl ?_
          refine rx_gf (v := .ref 4) (pc2 := 117) op130_114 sp_3 rfl rfl rfl ?_
          refine rx_p (L2 := [some (.ref 0), some (.int a1), some (.int x14), none]) (S2 := [.ref 0, .ref 4, .ref 102, .int r16]) (pc2 := 118) op130_117 rfl rfl ?_
          refine rx_gf (v := .ref 3) (pc2 := 121) op130_118 sp_0 rfl rfl rfl ?_
          refine rx_gf (v := .ref 14) (pc2 := 124) op130_121 sp_3 rfl rfl rfl ?_
          refine rx_p (L2 := [some (.ref 0), some (.int a1), some (.int x14), none]) (S2 := [.int a1, .ref 14, .ref 4, .ref 102, .int r16]) (pc2 := 125) op130_124 rfl rfl ?_
          refine rx_ic (v := 1) (pc2 := 126) op130_125 (by decide) rfl ?_
          refine rx_p (L2 := [some (.ref 0), some (.int a1), some (.int x14), none]) (S2 := [.int (a1 + 1), .ref 14, .ref 4, .ref 102, .int r16]) (pc2 := 127) op130_126 rfl rfl ?_
          obtain ⟨⟨r19, m18⟩, f20, h⟩ := rq_bind h
          try dsimp only at h
          refine ry_iv (p := 102) (vs := [.ref 4, .ref 14, .int (a1 + 1)]) (T := [.int r16]) (pc2 := 130) op130_127 ms_126 (by decide) rfl rfl (Nat.le_of_ble_eq_true rfl) (Nat.le_of_ble_eq_true rfl) sp_102 (ju_reachFrom_ok xs (by omega) sa_4 sa_14 f20) rfl ?_
          show rn_R _ _ _ _ _ [.int r19, .int r16] _ _ _
          refine rx_p (L2 := [some (.ref 0), some (.int a1), some (.int x14), none]) (S2 := [.int (r16 + r19)]) (pc2 := 131) op130_130 rfl rfl ?_
          obtain ⟨x21, ex21, h⟩ := rq_bv h
          refine rx_s (v := x21) (L2 := [some (.ref 0), some (.int a1), some (.int x14), some (.int x21)]) (pc2 := 132) op130_131 ex21 rfl rfl ?_
          refine rx_p (L2 := [some (.ref 0), some (.int a1), some (.int x14), some (.int x21)]) (S2 := [.ref 0]) (pc2 := 133) op130_132 rfl rfl ?_
          refine rx_gf (v := .ref 3) (pc2 := 136) op130_133 sp_0 rfl rfl rfl ?_
          refine rx_gf (v := .ref 14) (pc2 := 139) op130_136 sp_3 rfl rfl rfl ?_
          refine rx_gf (v := .ref 16) (pc2 := 142) op130_139 sp_14 rfl rfl rfl ?_
          refine rx_p (L2 := [some (.ref 0), some (.int a1), some (.int x14), some (.int x21)]) (S2 := [.int a1, .ref 16]) (pc2 := 143) op130_142 rfl rfl ?_
          obtain ⟨k22, h⟩ := rq_chk h
          refine rx_ia (pc2 := 144) op130_143 (rn_shlt sp_16) sp_16 k22 rfl rfl ?_
          refine rx_ic (v := 2) (pc2 := 145) op130_144 (by decide) rfl ?_
          refine rx_rem (v := rn_rem (m18.1 16 a1.toNatClampNeg) 2) (pc2 := 146) op130_145 (by decide) rfl rfl ?_
          refine ry_if_ne (tgt := 155) (pc2 := 149) op130_146 (by decide) (by decide) rfl (fun b23 => ?_) (fun b23 => ?_)
          · have h := (if_pos b23).symm.trans h
            refine rx_p (L2 := [some (.ref 0), some (.int a1), some (.int x14), some (.int x21)]) (S2 := [.int x14]) (pc2 := 150) op130_149 rfl rfl ?_
            refine rx_p (L2 := [some (.ref 0), some (.int a1), some (.int x14), some (.int x21)]) (S2 := [.int x21, .int x14]) (pc2 := 151) op130_150 rfl rfl ?_
            refine rx_p (L2 := [some (.ref 0), some (.int a1), some (.int x14), some (.int x21)]) (S2 := [.int (x14 - x21)]) (pc2 := 152) op130_151 rfl rfl ?_
            refine ry_go (tgt := 158) op130_152 (by decide) (by decide) ?_
            obtain ⟨rfl, rfl⟩ := rq_ret h
            exact ry_ri op130_158 ms_130 rfl
          · have h := (if_neg b23).symm.trans h
            refine rx_p (L2 := [some (.ref 0), some (.int a1), some (.int x14), some (.int x21)]) (S2 := [.int x21]) (pc2 := 156) op130_155 rfl rfl ?_
            refine rx_p (L2 := [some (.ref 0), some (.int a1), some (.int x14), some (.int x21)]) (S2 := [.int x14, .int x21]) (pc2 := 157) op130_156 rfl rfl ?_
            refine rx_p (L2 := [some (.ref 0), some (.int a1), some (.int x14), some (.int x21)]) (S2 := [.int (x21 - x14)]) (pc2 := 158) op130_157 rfl rfl ?_
            obtain ⟨rfl, rfl⟩ := rq_ret h
            exact ry_ri op130_158 ms_130 rfl
        · have h := (if_neg b7).symm.trans h
          refine rx_ic (v := (-1)) (pc2 := 43) op130_42 (by decide) rfl ?_
          obtain ⟨rfl, rfl⟩ := rq_ret h
          exact ry_ri op130_43 ms_130 rfl
    · have h := (if_neg b2).symm.trans h
      refine rx_ic (v := (-1)) (pc2 := 11) op130_10 (by decide) rfl ?_
      obtain ⟨rfl, rfl⟩ := rq_ret h
      exact ry_ri op130_11 ms_130 rfl
/-! ju_noteLacks -/
theorem op134_0 : rn_op 134 0 = some (.iconst 0, 1, 0, 0, 0) := by decide +kernel
theorem op134_1 : rn_op 134 1 = some (.istore 4, 2, 0, 0, 0) := by decide +kernel
theorem op134_3 : rn_op 134 3 = some (.iload 4, 2, 0, 0, 0) := by decide +kernel
theorem op134_5 : rn_op 134 5 = some (.iload_n 3, 1, 0, 0, 0) := by decide +kernel
theorem op134_6 : rn_op 134 6 = some (.aload_n 1, 1, 0, 0, 0) := by decide +kernel
theorem op134_7 : rn_op 134 7 = some (.getfield 46, 3, 1, 1, 0) := by decide +kernel
theorem op134_10 : rn_op 134 10 = some (.imul, 1, 0, 0, 0) := by decide +kernel
theorem op134_11 : rn_op 134 11 = some (.if_icmp .ge 110, 3, 0, 0, 0) := by decide +kernel
theorem op134_14 : rn_op 134 14 = some (.aload_n 2, 1, 0, 0, 0) := by decide +kernel
theorem op134_15 : rn_op 134 15 = some (.getfield 36, 3, 3, 2, 3) := by decide +kernel
theorem op134_18 : rn_op 134 18 = some (.iload 4, 2, 0, 0, 0) := by decide +kernel
theorem op134_20 : rn_op 134 20 = some (.iload 4, 2, 0, 0, 0) := by decide +kernel
theorem op134_22 : rn_op 134 22 = some (.aload_n 1, 1, 0, 0, 0) := by decide +kernel
theorem op134_23 : rn_op 134 23 = some (.getfield 46, 3, 1, 1, 0) := by decide +kernel
theorem op134_26 : rn_op 134 26 = some (.irem, 1, 0, 0, 0) := by decide +kernel
theorem op134_27 : rn_op 134 27 = some (.isub, 1, 0, 0, 0) := by decide +kernel
theorem op134_28 : rn_op 134 28 = some (.iaload, 1, 0, 0, 0) := by decide +kernel
theorem op134_29 : rn_op 134 29 = some (.iconst 2, 1, 0, 0, 0) := by decide +kernel
theorem op134_30 : rn_op 134 30 = some (.ishr, 1, 0, 0, 0) := by decide +kernel
theorem op134_31 : rn_op 134 31 = some (.istore 5, 2, 0, 0, 0) := by decide +kernel
theorem op134_33 : rn_op 134 33 = some (.aload_n 2, 1, 0, 0, 0) := by decide +kernel
theorem op134_34 : rn_op 134 34 = some (.getfield 36, 3, 3, 2, 3) := by decide +kernel
theorem op134_37 : rn_op 134 37 = some (.iload 4, 2, 0, 0, 0) := by decide +kernel
theorem op134_39 : rn_op 134 39 = some (.iaload, 1, 0, 0, 0) := by decide +kernel
theorem op134_40 : rn_op 134 40 = some (.iconst 2, 1, 0, 0, 0) := by decide +kernel
theorem op134_41 : rn_op 134 41 = some (.ishr, 1, 0, 0, 0) := by decide +kernel
theorem op134_42 : rn_op 134 42 = some (.istore 6, 2, 0, 0, 0) := by decide +kernel
theorem op134_44 : rn_op 134 44 = some (.iload 6, 2, 0, 0, 0) := by decide +kernel
theorem op134_46 : rn_op 134 46 = some (.iload 5, 2, 0, 0, 0) := by decide +kernel
theorem op134_48 : rn_op 134 48 = some (.if_icmp .eq 67, 3, 0, 0, 0) := by decide +kernel
theorem op134_51 : rn_op 134 51 = some (.aload_n 0, 1, 0, 0, 0) := by decide +kernel
theorem op134_52 : rn_op 134 52 = some (.getfield 18, 3, 2, 2, 3) := by decide +kernel
theorem op134_55 : rn_op 134 55 = some (.aload_n 2, 1, 0, 0, 0) := by decide +kernel
theorem op134_56 : rn_op 134 56 = some (.getfield 31, 3, 3, 3, 3) := by decide +kernel
theorem op134_59 : rn_op 134 59 = some (.iload 4, 2, 0, 0, 0) := by decide +kernel
theorem op134_61 : rn_op 134 61 = some (.iaload, 1, 0, 0, 0) := by decide +kernel
theorem op134_62 : rn_op 134 62 = some (.dup2, 1, 0, 0, 0) := by decide +kernel
theorem op134_63 : rn_op 134 63 = some (.iaload, 1, 0, 0, 0) := by decide +kernel
theorem op134_64 : rn_op 134 64 = some (.iconst 1, 1, 0, 0, 0) := by decide +kernel
theorem op134_65 : rn_op 134 65 = some (.iload 5, 2, 0, 0, 0) := by decide +kernel
theorem op134_67 : rn_op 134 67 = some (.ishl, 1, 0, 0, 0) := by decide +kernel
theorem op134_68 : rn_op 134 68 = some (.ior, 1, 0, 0, 0) := by decide +kernel
theorem op134_69 : rn_op 134 69 = some (.iastore, 1, 0, 0, 0) := by decide +kernel
theorem op134_70 : rn_op 134 70 = some (.aload_n 1, 1, 0, 0, 0) := by decide +kernel
theorem op134_71 : rn_op 134 71 = some (.getfield 85, 3, 1, 5, 0) := by decide +kernel
theorem op134_74 : rn_op 134 74 = some (.iconst 2, 1, 0, 0, 0) := by decide +kernel
theorem op134_75 : rn_op 134 75 = some (.if_icmp .ne 40, 3, 0, 0, 0) := by decide +kernel
theorem op134_78 : rn_op 134 78 = some (.aload_n 1, 1, 0, 0, 0) := by decide +kernel
theorem op134_79 : rn_op 134 79 = some (.getfield 95, 3, 1, 4, 0) := by decide +kernel
theorem op134_82 : rn_op 134 82 = some (.ifCond .lt 33, 3, 0, 0, 0) := by decide +kernel
theorem op134_85 : rn_op 134 85 = some (.iload 6, 2, 0, 0, 0) := by decide +kernel
theorem op134_87 : rn_op 134 87 = some (.aload_n 1, 1, 0, 0, 0) := by decide +kernel
theorem op134_88 : rn_op 134 88 = some (.getfield 95, 3, 1, 4, 0) := by decide +kernel
theorem op134_91 : rn_op 134 91 = some (.if_icmp .eq 24, 3, 0, 0, 0) := by decide +kernel
theorem op134_94 : rn_op 134 94 = some (.aload_n 0, 1, 0, 0, 0) := by decide +kernel
theorem op134_95 : rn_op 134 95 = some (.getfield 18, 3, 2, 2, 3) := by decide +kernel
theorem op134_98 : rn_op 134 98 = some (.aload_n 2, 1, 0, 0, 0) := by decide +kernel
theorem op134_99 : rn_op 134 99 = some (.getfield 31, 3, 3, 3, 3) := by decide +kernel
theorem op134_102 : rn_op 134 102 = some (.iload 4, 2, 0, 0, 0) := by decide +kernel
theorem op134_104 : rn_op 134 104 = some (.iaload, 1, 0, 0, 0) := by decide +kernel
theorem op134_105 : rn_op 134 105 = some (.dup2, 1, 0, 0, 0) := by decide +kernel
theorem op134_106 : rn_op 134 106 = some (.iaload, 1, 0, 0, 0) := by decide +kernel
theorem op134_107 : rn_op 134 107 = some (.iconst 1, 1, 0, 0, 0) := by decide +kernel
theorem op134_108 : rn_op 134 108 = some (.aload_n 1, 1, 0, 0, 0) := by decide +kernel
theorem op134_109 : rn_op 134 109 = some (.getfield 95, 3, 1, 4, 0) := by decide +kernel
theorem op134_112 : rn_op 134 112 = some (.ishl, 1, 0, 0, 0) := by decide +kernel
theorem op134_113 : rn_op 134 113 = some (.ior, 1, 0, 0, 0) := by decide +kernel
theorem op134_114 : rn_op 134 114 = some (.iastore, 1, 0, 0, 0) := by decide +kernel
theorem op134_115 : rn_op 134 115 = some (.iinc 4 1, 3, 0, 0, 0) := by decide +kernel
theorem op134_118 : rn_op 134 118 = some (.goto (-115), 3, 0, 0, 0) := by decide +kernel
theorem op134_121 : rn_op 134 121 = some (.return_, 1, 0, 0, 0) := by decide +kernel
def ju_noteLacks_l3 (q1 : Nat) (q2 : Nat) (a3 : Int32) : Nat → Int32 → rn_Mem → Option (rn_Mem)
  | 0, _, _ => none
  | n + 1, a4, m =>
    if a4 < (a3 * (m.1 q1 1)) then
      if ¬ (m.1 q1 1) = 0 then
        if rn_in (a4 - (rn_rem a4 (m.1 q1 1))) 12 = true then
          (some ((m.1 (q2 + 1) (a4 - (rn_rem a4 (m.1 q1 1))).toNatClampNeg) >>> (2 &&& 31))).bind fun (x4 : Int32) =>
          if rn_in a4 12 = true then
            (some ((m.1 (q2 + 1) a4.toNatClampNeg) >>> (2 &&& 31))).bind fun (x6 : Int32) =>
            (show Option (rn_Mem) from
              if x6 = x4 then
                some (m)
              else
                if rn_in a4 12 = true then
                  if rn_in (m.1 (q2 + 2) a4.toNatClampNeg) 4 = true then
                    if rn_in (m.1 (q2 + 2) a4.toNatClampNeg) 4 = true then
                      (some (rm_i m 105 (m.1 (q2 + 2) a4.toNatClampNeg).toNatClampNeg ((m.1 105 (m.1 (q2 + 2) a4.toNatClampNeg).toNatClampNeg) ||| ((1 : Int32) <<< (x4 &&& 31))))).bind fun (m10 : rn_Mem) =>
                      if (m10.1 q1 5) = 2 then
                        if (m10.1 q1 4) < 0 then
                          some (m10)
                        else
                          if x6 = (m10.1 q1 4) then
                            some (m10)
                          else
                            if rn_in a4 12 = true then
                              if rn_in (m10.1 (q2 + 2) a4.toNatClampNeg) 4 = true then
                                if rn_in (m10.1 (q2 + 2) a4.toNatClampNeg) 4 = true then
                                  (some (rm_i m10 105 (m10.1 (q2 + 2) a4.toNatClampNeg).toNatClampNeg ((m10.1 105 (m10.1 (q2 + 2) a4.toNatClampNeg).toNatClampNeg) ||| ((1 : Int32) <<< ((m10.1 q1 4) &&& 31))))).bind fun (m17 : rn_Mem) =>
                                  some (m17)
                                else none
                              else none
                            else none
                      else
                        some (m10)
                    else none
                  else none
                else none).bind fun m21 =>
            (some (a4 + 1)).bind fun (x22 : Int32) =>
            ju_noteLacks_l3 q1 q2 a3 n x22 m21
          else none
        else none
      else none
    else
      some m
def ju_noteLacks (n : Nat) (q1 : Nat) (q2 : Nat) (a3 : Int32) (m : rn_Mem) : Option (rn_Mem) :=
  (ju_noteLacks_l3 q1 q2 a3 n 0 m).bind fun m24 =>
  some m24
set_option maxHeartbeats 4000000 in
set_option maxRecDepth 20000 in
theorem ju_noteLacks_l3_ok (xs : List Int32) {d : Nat} {q1 : Nat} {q2 : Nat} {a3 : Int32} {r : Option Value} {τ : rn_H} {out : rn_Mem} (hr : ∀ (mO : rn_Mem), out = mO → ∀ (o0 o1 o2 o3 o4 o5 o6 : Option Value), rn_R xs d 134 121 [o0, o1, o2, o3, o4, o5, o6] [] (rn_SH, mO) r τ) : ∀ (n : Nat) (a4 : Int32) (o5 o6 : Option Value) (m : rn_Mem), sA_Game q1 → sA_Row q2 → ju_noteLacks_l3 q1 q2 a3 n a4 m = some out → rn_R xs d 134 3 [some (.ref 102), some (.ref q1), some (.ref q2), some (.int a3), some (.int a4), o5, o6] [] (rn_SH, m) r τ := by
  intro n
  induction n with
  | zero =>
    intro _ _ _ _ _ _ h
    cases h
  | succ n ih =>
    intro a4 o5 o6 m hq1 hq2 h
    unfold ju_noteLacks_l3 at h
    try dsimp only at h
    refine rx_p (L2 := [some (.ref 102), some (.ref q1), some (.ref q2), some (.int a3), some (.int a4), o5, o6]) (S2 := [.int a4]) (pc2 := 5) op134_3 rfl rfl ?_
    refine rx_p (L2 := [some (.ref 102), some (.ref q1), some (.ref q2), some (.int a3), some (.int a4), o5, o6]) (S2 := [.int a3, .int a4]) (pc2 := 6) op134_5 rfl rfl ?_
    refine rx_p (L2 := [some (.ref 102), some (.ref q1), some (.ref q2), some (.int a3), some (.int a4), o5, o6]) (S2 := [.ref q1, .int a3, .int a4]) (pc2 := 7) op134_6 rfl rfl ?_
    refine rx_gf (v := .int (m.1 q1 1)) (pc2 := 10) op134_7 hq1 rfl rfl rfl ?_
    refine rx_p (L2 := [some (.ref 102), some (.ref q1), some (.ref q2), some (.int a3), some (.int a4), o5, o6]) (S2 := [.int (a3 * (m.1 q1 1)), .int a4]) (pc2 := 11) op134_10 rfl rfl ?_
    refine ry_ic_ge (tgt := 121) (pc2 := 14) op134_11 (by decide) (by decide) rfl (fun b1 => ?_) (fun b1 => ?_)
    · have h := (if_pos b1).symm.trans h
      refine rx_p (L2 := [some (.ref 102), some (.ref q1), some (.ref q2), some (.int a3), some (.int a4), o5, o6]) (S2 := [.ref q2]) (pc2 := 15) op134_14 rfl rfl ?_
      refine rx_gf (v := .ref (q2 + 1)) (pc2 := 18) op134_15 (hq2.1) rfl rfl rfl ?_
      refine rx_p (L2 := [some (.ref 102), some (.ref q1), some (.ref q2), some (.int a3), some (.int a4), o5, o6]) (S2 := [.int a4, .ref (q2 + 1)]) (pc2 := 20) op134_18 rfl rfl ?_
      refine rx_p (L2 := [some (.ref 102), some (.ref q1), some (.ref q2), some (.int a3), some (.int a4), o5, o6]) (S2 := [.int a4, .int a4, .ref (q2 + 1)]) (pc2 := 22) op134_20 rfl rfl ?_
      refine rx_p (L2 := [some (.ref 102), some (.ref q1), some (.ref q2), some (.int a3), some (.int a4), o5, o6]) (S2 := [.ref q1, .int a4, .int a4, .ref (q2 + 1)]) (pc2 := 23) op134_22 rfl rfl ?_
      refine rx_gf (v := .int (m.1 q1 1)) (pc2 := 26) op134_23 hq1 rfl rfl rfl ?_
      obtain ⟨k2, h⟩ := rq_chk h
      refine rx_rem (v := rn_rem a4 (m.1 q1 1)) (pc2 := 27) op134_26 k2 rfl rfl ?_
      refine rx_p (L2 := [some (.ref 102), some (.ref q1), some (.ref q2), some (.int a3), some (.int a4), o5, o6]) (S2 := [.int (a4 - (rn_rem a4 (m.1 q1 1))), .ref (q2 + 1)]) (pc2 := 28) op134_27 rfl rfl ?_
      obtain ⟨k3, h⟩ := rq_chk h
      refine rx_ia (pc2 := 29) op134_28 (rn_shlt (hq2.2.1)) (hq2.2.1) k3 rfl rfl ?_
      refine rx_ic (v := 2) (pc2 := 30) op134_29 (by decide) rfl ?_
      refine rx_p (L2 := [some (.ref 102), some (.ref q1), some (.ref q2), some (.int a3), some (.int a4), o5, o6]) (S2 := [.int ((m.1 (q2 + 1) (a4 - (rn_rem a4 (m.1 q1 1))).toNatClampNeg) >>> (2 &&& 31))]) (pc2 := 31) op134_30 rfl rfl ?_
      obtain ⟨x4, ex4, h⟩ := rq_bv h
      refine rx_s (v := x4) (L2 := [some (.ref 102), some (.ref q1), some (.ref q2), some (.int a3), some (.int a4), some (.int x4), o6]) (pc2 := 33) op134_31 ex4 rfl rfl ?_
      refine rx_p (L2 := [some (.ref 102), some (.ref q1), some (.ref q2), some (.int a3), some (.int a4), some (.int x4), o6]) (S2 := [.ref q2]) (pc2 := 34) op134_33 rfl rfl ?_
      refine rx_gf (v := .ref (q2 + 1)) (pc2 := 37) op134_34 (hq2.1) rfl rfl rfl ?_
      refine rx_p (L2 := [some (.ref 102), some (.ref q1), some (.ref q2), some (.int a3), some (.int a4), some (.int x4), o6]) (S2 := [.int a4, .ref (q2 + 1)]) (pc2 := 39) op134_37 rfl rfl ?_
      obtain ⟨k5, h⟩ := rq_chk h
      refine rx_ia (pc2 := 40) op134_39 (rn_shlt (hq2.2.1)) (hq2.2.1) k5 rfl rfl ?_
      refine rx_ic (v := 2) (pc2 := 41) op134_40 (by decide) rfl ?_
      refine rx_p (L2 := [some (.ref 102), some (.ref q1), some (.ref q2), some (.int a3), some (.int a4), some (.int x4), o6]) (S2 := [.int ((m.1 (q2 + 1) a4.toNatClampNeg) >>> (2 &&& 31))]) (pc2 := 42) op134_41 rfl rfl ?_
      obtain ⟨x6, ex6, h⟩ := rq_bv h
      refine rx_s (v := x6) (L2 := [some (.ref 102), some (.ref q1), some (.ref q2), some (.int a3), some (.int a4), some (.int x4), some (.int x6)]) (pc2 := 44) op134_42 ex6 rfl rfl ?_
      refine rx_p (L2 := [some (.ref 102), some (.ref q1), some (.ref q2), some (.int a3), some (.int a4), some (.int x4), some (.int x6)]) (S2 := [.int x6]) (pc2 := 46) op134_44 rfl rfl ?_
      refine rx_p (L2 := [some (.ref 102), some (.ref q1), some (.ref q2), some (.int a3), some (.int a4), some (.int x4), some (.int x6)]) (S2 := [.int x4, .int x6]) (pc2 := 48) op134_46 rfl rfl ?_
      obtain ⟨m21, gc23, h⟩ := rq_bind h
      try dsimp only at h
      have c23 : ∀ (o19 o20 : Option Value), rn_R xs d 134 115 [some (.ref 102), some (.ref q1), some (.ref q2), some (.int a3), some (.int a4), o19, o20] [] (rn_SH, m21) r τ := by
        intro o19 o20
        obtain ⟨x22, ex22, h⟩ := rq_bv h
        refine rx_inc (w := 1) (v := x22) (L2 := [some (.ref 102), some (.ref q1), some (.ref q2), some (.int a3), some (.int x22), o19, o20]) (pc2 := 118) op134_115 rfl (by decide) ex22 rfl rfl ?_
        refine ry_go (tgt := 3) op134_118 (by decide) (by decide) ?_
        exact ih _ _ _ _ hq1 hq2 h
      refine ry_ic_eq (tgt := 115) (pc2 := 51) op134_48 (by decide) (by decide) rfl (fun b7 => ?_) (fun b7 => ?_)
      · have gc23 := (if_pos b7).symm.trans gc23
        cases gc23
        exact c23 _ _
      · have gc23 := (if_neg b7).symm.trans gc23
        refine rx_p (L2 := [some (.ref 102), some (.ref q1), some (.ref q2), some (.int a3), some (.int a4), some (.int x4), some (.int x6)]) (S2 := [.ref 102]) (pc2 := 52) op134_51 rfl rfl ?_
        refine rx_gf (v := .ref 105) (pc2 := 55) op134_52 sp_102 rfl rfl rfl ?_
        refine rx_p (L2 := [some (.ref 102), some (.ref q1), some (.ref q2), some (.int a3), some (.int a4), some (.int x4), some (.int x6)]) (S2 := [.ref q2, .ref 105]) (pc2 := 56) op134_55 rfl rfl ?_
        refine rx_gf (v := .ref (q2 + 2)) (pc2 := 59) op134_56 (hq2.1) rfl rfl rfl ?_
        refine rx_p (L2 := [some (.ref 102), some (.ref q1), some (.ref q2), some (.int a3), some (.int a4), some (.int x4), some (.int x6)]) (S2 := [.int a4, .ref (q2 + 2), .ref 105]) (pc2 := 61) op134_59 rfl rfl ?_
        obtain ⟨k8, gc23⟩ := rq_chk gc23
        refine rx_ia (pc2 := 62) op134_61 (rn_shlt (hq2.2.2.1)) (hq2.2.2.1) k8 rfl rfl ?_
        refine rx_p (L2 := [some (.ref 102), some (.ref q1), some (.ref q2), some (.int a3), some (.int a4), some (.int x4), some (.int x6)]) (S2 := [.int (m.1 (q2 + 2) a4.toNatClampNeg), .ref 105, .int (m.1 (q2 + 2) a4.toNatClampNeg), .ref 105]) (pc2 := 63) op134_62 rfl rfl ?_
        obtain ⟨k9, gc23⟩ := rq_chk gc23
        refine rx_ia (pc2 := 64) op134_63 (rn_shlt sp_105) sp_105 k9 rfl rfl ?_
        refine rx_ic (v := 1) (pc2 := 65) op134_64 (by decide) rfl ?_
        refine rx_p (L2 := [some (.ref 102), some (.ref q1), some (.ref q2), some (.int a3), some (.int a4), some (.int x4), some (.int x6)]) (S2 := [.int x4, .int 1, .int (m.1 105 (m.1 (q2 + 2) a4.toNatClampNeg).toNatClampNeg), .int (m.1 (q2 + 2) a4.toNatClampNeg), .ref 105]) (pc2 := 67) op134_65 rfl rfl ?_
        refine rx_p (L2 := [some (.ref 102), some (.ref q1), some (.ref q2), some (.int a3), some (.int a4), some (.int x4), some (.int x6)]) (S2 := [.int ((1 : Int32) <<< (x4 &&& 31)), .int (m.1 105 (m.1 (q2 + 2) a4.toNatClampNeg).toNatClampNeg), .int (m.1 (q2 + 2) a4.toNatClampNeg), .ref 105]) (pc2 := 68) op134_67 rfl rfl ?_
        refine rx_p (L2 := [some (.ref 102), some (.ref q1), some (.ref q2), some (.int a3), some (.int a4), some (.int x4), some (.int x6)]) (S2 := [.int ((m.1 105 (m.1 (q2 + 2) a4.toNatClampNeg).toNatClampNeg) ||| ((1 : Int32) <<< (x4 &&& 31))), .int (m.1 (q2 + 2) a4.toNatClampNeg), .ref 105]) (pc2 := 69) op134_68 rfl rfl ?_
        obtain ⟨k11, gc23⟩ := rq_chk gc23
        obtain ⟨m10, em10, gc23⟩ := rq_bv gc23
        refine rx_is (m2 := m10) (pc2 := 70) op134_69 sp_105 k11 rfl em10 rfl ?_
        refine rx_p (L2 := [some (.ref 102), some (.ref q1), some (.ref q2), some (.int a3), some (.int a4), some (.int x4), some (.int x6)]) (S2 := [.ref q1]) (pc2 := 71) op134_70 rfl rfl ?_
        refine rx_gf (v := .int (m10.1 q1 5)) (pc2 := 74) op134_71 hq1 rfl rfl rfl ?_
        refine rx_ic (v := 2) (pc2 := 75) op134_74 (by decide) rfl ?_
        refine ry_ic_ne (tgt := 115) (pc2 := 78) op134_75 (by decide) (by decide) rfl (fun b12 => ?_) (fun b12 => ?_)
        · have gc23 := (if_pos b12).symm.trans gc23
          refine rx_p (L2 := [some (.ref 102), some (.ref q1), some (.ref q2), some (.int a3), some (.int a4), some (.int x4), some (.int x6)]) (S2 := [.ref q1]) (pc2 := 79) op134_78 rfl rfl ?_
          refine rx_gf (v := .int (m10.1 q1 4)) (pc2 := 82) op134_79 hq1 rfl rfl rfl ?_
          refine ry_if_lt (tgt := 115) (pc2 := 85) op134_82 (by decide) (by decide) rfl (fun b13 => ?_) (fun b13 => ?_)
          · have gc23 := (if_pos b13).symm.trans gc23
            cases gc23
            exact c23 _ _
          · have gc23 := (if_neg b13).symm.trans gc23
            refine rx_p (L2 := [some (.ref 102), some (.ref q1), some (.ref q2), some (.int a3), some (.int a4), some (.int x4), some (.int x6)]) (S2 := [.int x6]) (pc2 := 87) op134_85 rfl rfl ?_
            refine rx_p (L2 := [some (.ref 102), some (.ref q1), some (.ref q2), some (.int a3), some (.int a4), some (.int x4), some (.int x6)]) (S2 := [.ref q1, .int x6]) (pc2 := 88) op134_87 rfl rfl ?_
            refine rx_gf (v := .int (m10.1 q1 4)) (pc2 := 91) op134_88 hq1 rfl rfl rfl ?_
            refine ry_ic_eq (tgt := 115) (pc2 := 94) op134_91 (by decide) (by decide) rfl (fun b14 => ?_) (fun b14 => ?_)
            · have gc23 := (if_pos b14).symm.trans gc23
              cases gc23
              exact c23 _ _
            · have gc23 := (if_neg b14).symm.trans gc23
              refine rx_p (L2 := [some (.ref 102), some (.ref q1), some (.ref q2), some (.int a3), some (.int a4), some (.int x4), some (.int x6)]) (S2 := [.ref 102]) (pc2 := 95) op134_94 rfl rfl ?_
              refine rx_gf (v := .ref 105) (pc2 := 98) op134_95 sp_102 rfl rfl rfl ?_
              refine rx_p (L2 := [some (.ref 102), some (.ref q1), some (.ref q2), some (.int a3), some (.int a4), some (.int x4), some (.int x6)]) (S2 := [.ref q2, .ref 105]) (pc2 := 99) op134_98 rfl rfl ?_
              refine rx_gf (v := .ref (q2 + 2)) (pc2 := 102) op134_99 (hq2.1) rfl rfl rfl ?_
              refine rx_p (L2 := [some (.ref 102), some (.ref q1), some (.ref q2), some (.int a3), some (.int a4), some (.int x4), some (.int x6)]) (S2 := [.int a4, .ref (q2 + 2), .ref 105]) (pc2 := 104) op134_102 rfl rfl ?_
              obtain ⟨k15, gc23⟩ := rq_chk gc23
              refine rx_ia (pc2 := 105) op134_104 (rn_shlt (hq2.2.2.1)) (hq2.2.2.1) k15 rfl rfl ?_
              refine rx_p (L2 := [some (.ref 102), some (.ref q1), some (.ref q2), some (.int a3), some (.int a4), some (.int x4), some (.int x6)]) (S2 := [.int (m10.1 (q2 + 2) a4.toNatClampNeg), .ref 105, .int (m10.1 (q2 + 2) a4.toNatClampNeg), .ref 105]) (pc2 := 106) op134_105 rfl rfl ?_
              obtain ⟨k16, gc23⟩ := rq_chk gc23
              refine rx_ia (pc2 := 107) op134_106 (rn_shlt sp_105) sp_105 k16 rfl rfl ?_
              refine rx_ic (v := 1) (pc2 := 108) op134_107 (by decide) rfl ?_
              refine rx_p (L2 := [some (.ref 102), some (.ref q1), some (.ref q2), some (.int a3), some (.int a4), some (.int x4), some (.int x6)]) (S2 := [.ref q1, .int 1, .int (m10.1 105 (m10.1 (q2 + 2) a4.toNatClampNeg).toNatClampNeg), .int (m10.1 (q2 + 2) a4.toNatClampNeg), .ref 105]) (pc2 := 109) op134_108 rfl rfl ?_
              refine rx_gf (v := .int (m10.1 q1 4)) (pc2 := 112) op134_109 hq1 rfl rfl rfl ?_
              refine rx_p (L2 := [some (.ref 102), some (.ref q1), some (.ref q2), some (.int a3), some (.int a4), some (.int x4), some (.int x6)]) (S2 := [.int ((1 : Int32) <<< ((m10.1 q1 4) &&& 31)), .int (m10.1 105 (m10.1 (q2 + 2) a4.toNatClampNeg).toNatClampNeg), .int (m10.1 (q2 + 2) a4.toNatClampNeg), .ref 105]) (pc2 := 113) op134_112 rfl rfl ?_
              refine rx_p (L2 := [some (.ref 102), some (.ref q1), some (.ref q2), some (.int a3), some (.int a4), some (.int x4), some (.int x6)]) (S2 := [.int ((m10.1 105 (m10.1 (q2 + 2) a4.toNatClampNeg).toNatClampNeg) ||| ((1 : Int32) <<< ((m10.1 q1 4) &&& 31))), .int (m10.1 (q2 + 2) a4.toNatClampNeg), .ref 105]) (pc2 := 114) op134_113 rfl rfl ?_
              obtain ⟨k18, gc23⟩ := rq_chk gc23
              obtain ⟨m17, em17, gc23⟩ := rq_bv gc23
              refine rx_is (m2 := m17) (pc2 := 115) op134_114 sp_105 k18 rfl em17 rfl ?_
              cases gc23
              exact c23 _ _
        · have gc23 := (if_neg b12).symm.trans gc23
          cases gc23
          exact c23 _ _
    · have h := (if_neg b1).symm.trans h
      cases h
      exact hr _ rfl _ _ _ _ _ _ _
set_option maxHeartbeats 4000000 in
set_option maxRecDepth 20000 in
theorem ju_noteLacks_ok (xs : List Int32) {d : Nat} (hd : 0 ≤ d) {n : Nat} {q1 : Nat} {q2 : Nat} {a3 : Int32} {m mO : rn_Mem} (hq1 : sA_Game q1) (hq2 : sA_Row q2) (h : ju_noteLacks n q1 q2 a3 m = some mO) : rn_R xs d 134 0 (rn_ent 7 [.ref 102, .ref q1, .ref q2, .int a3]) [] (rn_SH, m) none (rn_SH, mO) := by
  unfold ju_noteLacks at h
  show rn_R xs d 134 0 [some (.ref 102), some (.ref q1), some (.ref q2), some (.int a3), none, none, none] [] (rn_SH, m) none (rn_SH, mO)
  refine rx_ic (v := 0) (pc2 := 1) op134_0 (by decide) rfl ?_
  refine rx_s (L2 := [some (.ref 102), some (.ref q1), some (.ref q2), some (.int a3), some (.int 0), none, none]) (pc2 := 3) op134_1 rfl rfl rfl ?_
  obtain ⟨m24, f32, h⟩ := rq_bind h
  refine ju_noteLacks_l3_ok xs (fun m0 eq => ?_) _ _ _ _ _ hq1 hq2 f32
  subst eq
  try dsimp only at h
  intro o25 o26 o27 o28 o29 o30 o31
  obtain rfl := Option.some.inj h
  exact ry_rv op134_121 ms_134 rfl
/-! ju_deals -/
theorem op135_0 : rn_op 135 0 = some (.iload_n 3, 1, 0, 0, 0) := by decide +kernel
theorem op135_1 : rn_op 135 1 = some (.bipush 16, 2, 0, 0, 0) := by decide +kernel
theorem op135_3 : rn_op 135 3 = some (.if_icmp .lt 5, 3, 0, 0, 0) := by decide +kernel
theorem op135_6 : rn_op 135 6 = some (.iconst 1, 1, 0, 0, 0) := by decide +kernel
theorem op135_7 : rn_op 135 7 = some (.ireturn, 1, 0, 0, 0) := by decide +kernel
theorem op135_8 : rn_op 135 8 = some (.iload_n 2, 1, 0, 0, 0) := by decide +kernel
theorem op135_9 : rn_op 135 9 = some (.iload_n 3, 1, 0, 0, 0) := by decide +kernel
theorem op135_10 : rn_op 135 10 = some (.ishr, 1, 0, 0, 0) := by decide +kernel
theorem op135_11 : rn_op 135 11 = some (.iconst 1, 1, 0, 0, 0) := by decide +kernel
theorem op135_12 : rn_op 135 12 = some (.iand, 1, 0, 0, 0) := by decide +kernel
theorem op135_13 : rn_op 135 13 = some (.ifCond .ne 13, 3, 0, 0, 0) := by decide +kernel
theorem op135_16 : rn_op 135 16 = some (.aload_n 0, 1, 0, 0, 0) := by decide +kernel
theorem op135_17 : rn_op 135 17 = some (.aload_n 1, 1, 0, 0, 0) := by decide +kernel
theorem op135_18 : rn_op 135 18 = some (.iload_n 2, 1, 0, 0, 0) := by decide +kernel
theorem op135_19 : rn_op 135 19 = some (.iload_n 3, 1, 0, 0, 0) := by decide +kernel
theorem op135_20 : rn_op 135 20 = some (.iconst 1, 1, 0, 0, 0) := by decide +kernel
theorem op135_21 : rn_op 135 21 = some (.iadd, 1, 0, 0, 0) := by decide +kernel
theorem op135_22 : rn_op 135 22 = some (.invokevirtual 91, 3, 135, 4, 2) := by decide +kernel
theorem op135_25 : rn_op 135 25 = some (.ireturn, 1, 0, 0, 0) := by decide +kernel
theorem op135_26 : rn_op 135 26 = some (.iconst 0, 1, 0, 0, 0) := by decide +kernel
theorem op135_27 : rn_op 135 27 = some (.istore 4, 2, 0, 0, 0) := by decide +kernel
theorem op135_29 : rn_op 135 29 = some (.iconst 0, 1, 0, 0, 0) := by decide +kernel
theorem op135_30 : rn_op 135 30 = some (.istore 5, 2, 0, 0, 0) := by decide +kernel
theorem op135_32 : rn_op 135 32 = some (.iload 5, 2, 0, 0, 0) := by decide +kernel
theorem op135_34 : rn_op 135 34 = some (.aload_n 1, 1, 0, 0, 0) := by decide +kernel
theorem op135_35 : rn_op 135 35 = some (.getfield 46, 3, 1, 1, 0) := by decide +kernel
theorem op135_38 : rn_op 135 38 = some (.if_icmp .ge 71, 3, 0, 0, 0) := by decide +kernel
theorem op135_41 : rn_op 135 41 = some (.aload_n 0, 1, 0, 0, 0) := by decide +kernel
theorem op135_42 : rn_op 135 42 = some (.getfield 15, 3, 2, 1, 3) := by decide +kernel
theorem op135_45 : rn_op 135 45 = some (.iload 5, 2, 0, 0, 0) := by decide +kernel
theorem op135_47 : rn_op 135 47 = some (.iaload, 1, 0, 0, 0) := by decide +kernel
theorem op135_48 : rn_op 135 48 = some (.ifCond .le 55, 3, 0, 0, 0) := by decide +kernel
theorem op135_51 : rn_op 135 51 = some (.aload_n 0, 1, 0, 0, 0) := by decide +kernel
theorem op135_52 : rn_op 135 52 = some (.getfield 18, 3, 2, 2, 3) := by decide +kernel
theorem op135_55 : rn_op 135 55 = some (.iload 5, 2, 0, 0, 0) := by decide +kernel
theorem op135_57 : rn_op 135 57 = some (.iaload, 1, 0, 0, 0) := by decide +kernel
theorem op135_58 : rn_op 135 58 = some (.iload_n 3, 1, 0, 0, 0) := by decide +kernel
theorem op135_59 : rn_op 135 59 = some (.iconst 2, 1, 0, 0, 0) := by decide +kernel
theorem op135_60 : rn_op 135 60 = some (.ishr, 1, 0, 0, 0) := by decide +kernel
theorem op135_61 : rn_op 135 61 = some (.ishr, 1, 0, 0, 0) := by decide +kernel
theorem op135_62 : rn_op 135 62 = some (.iconst 1, 1, 0, 0, 0) := by decide +kernel
theorem op135_63 : rn_op 135 63 = some (.iand, 1, 0, 0, 0) := by decide +kernel
theorem op135_64 : rn_op 135 64 = some (.ifCond .ne 39, 3, 0, 0, 0) := by decide +kernel
theorem op135_67 : rn_op 135 67 = some (.aload_n 0, 1, 0, 0, 0) := by decide +kernel
theorem op135_68 : rn_op 135 68 = some (.getfield 15, 3, 2, 1, 3) := by decide +kernel
theorem op135_71 : rn_op 135 71 = some (.iload 5, 2, 0, 0, 0) := by decide +kernel
theorem op135_73 : rn_op 135 73 = some (.dup2, 1, 0, 0, 0) := by decide +kernel
theorem op135_74 : rn_op 135 74 = some (.iaload, 1, 0, 0, 0) := by decide +kernel
theorem op135_75 : rn_op 135 75 = some (.iconst 1, 1, 0, 0, 0) := by decide +kernel
theorem op135_76 : rn_op 135 76 = some (.isub, 1, 0, 0, 0) := by decide +kernel
theorem op135_77 : rn_op 135 77 = some (.iastore, 1, 0, 0, 0) := by decide +kernel
theorem op135_78 : rn_op 135 78 = some (.iload 4, 2, 0, 0, 0) := by decide +kernel
theorem op135_80 : rn_op 135 80 = some (.aload_n 0, 1, 0, 0, 0) := by decide +kernel
theorem op135_81 : rn_op 135 81 = some (.aload_n 1, 1, 0, 0, 0) := by decide +kernel
theorem op135_82 : rn_op 135 82 = some (.iload_n 2, 1, 0, 0, 0) := by decide +kernel
theorem op135_83 : rn_op 135 83 = some (.iload_n 3, 1, 0, 0, 0) := by decide +kernel
theorem op135_84 : rn_op 135 84 = some (.iconst 1, 1, 0, 0, 0) := by decide +kernel
theorem op135_85 : rn_op 135 85 = some (.iadd, 1, 0, 0, 0) := by decide +kernel
theorem op135_86 : rn_op 135 86 = some (.invokevirtual 91, 3, 135, 4, 2) := by decide +kernel
theorem op135_89 : rn_op 135 89 = some (.iadd, 1, 0, 0, 0) := by decide +kernel
theorem op135_90 : rn_op 135 90 = some (.istore 4, 2, 0, 0, 0) := by decide +kernel
theorem op135_92 : rn_op 135 92 = some (.aload_n 0, 1, 0, 0, 0) := by decide +kernel
theorem op135_93 : rn_op 135 93 = some (.getfield 15, 3, 2, 1, 3) := by decide +kernel
theorem op135_96 : rn_op 135 96 = some (.iload 5, 2, 0, 0, 0) := by decide +kernel
theorem op135_98 : rn_op 135 98 = some (.dup2, 1, 0, 0, 0) := by decide +kernel
theorem op135_99 : rn_op 135 99 = some (.iaload, 1, 0, 0, 0) := by decide +kernel
theorem op135_100 : rn_op 135 100 = some (.iconst 1, 1, 0, 0, 0) := by decide +kernel
theorem op135_101 : rn_op 135 101 = some (.iadd, 1, 0, 0, 0) := by decide +kernel
theorem op135_102 : rn_op 135 102 = some (.iastore, 1, 0, 0, 0) := by decide +kernel
theorem op135_103 : rn_op 135 103 = some (.iinc 5 1, 3, 0, 0, 0) := by decide +kernel
theorem op135_106 : rn_op 135 106 = some (.goto (-74), 3, 0, 0, 0) := by decide +kernel
theorem op135_109 : rn_op 135 109 = some (.iload 4, 2, 0, 0, 0) := by decide +kernel
theorem op135_111 : rn_op 135 111 = some (.ireturn, 1, 0, 0, 0) := by decide +kernel
def ju_deals_l32 (rec : Nat → Int32 → Int32 → rn_Mem → Option (Int32 × rn_Mem)) (q1 : Nat) (a2 : Int32) (a3 : Int32) : Nat → Int32 → Int32 → rn_Mem → Option (Int32 × rn_Mem)
  | 0, _, _, _ => none
  | n + 1, a4, a5, m =>
    if a5 < (m.1 q1 1) then
      if rn_in a5 4 = true then
        (show Option (Int32 × rn_Mem) from
          if 0 < (m.1 104 a5.toNatClampNeg) then
            if rn_in a5 4 = true then
              if (((m.1 105 a5.toNatClampNeg) >>> ((a3 >>> (2 &&& 31)) &&& 31)) &&& 1) = 0 then
                if rn_in a5 4 = true then
                  if rn_in a5 4 = true then
                    (some (rm_i m 104 a5.toNatClampNeg ((m.1 104 a5.toNatClampNeg) - 1))).bind fun (m12 : rn_Mem) =>
                    (rec q1 a2 (a3 + 1) m12).bind fun (r15, m14) =>
                    (some (a4 + r15)).bind fun (x17 : Int32) =>
                    if rn_in a5 4 = true then
                      if rn_in a5 4 = true then
                        (some (rm_i m14 104 a5.toNatClampNeg ((m14.1 104 a5.toNatClampNeg) + 1))).bind fun (m19 : rn_Mem) =>
                        some (x17, m19)
                      else none
                    else none
                  else none
                else none
              else
                some (a4, m)
            else none
          else
            some (a4, m)).bind fun (x21, m22) =>
        (some (a5 + 1)).bind fun (x23 : Int32) =>
        ju_deals_l32 rec q1 a2 a3 n x21 x23 m22
      else none
    else
      some (a4, m)
def ju_deals_1 (rec : Nat → Int32 → Int32 → rn_Mem → Option (Int32 × rn_Mem)) (n : Nat) (q1 : Nat) (a2 : Int32) (a3 : Int32) (m : rn_Mem) : Option (Int32 × rn_Mem) :=
  if a3 < 16 then
    if ((a2 >>> (a3 &&& 31)) &&& 1) = 0 then
      (rec q1 a2 (a3 + 1) m).bind fun (r4, m3) =>
      some (r4, m3)
    else
      (ju_deals_l32 rec q1 a2 a3 n 0 0 m).bind fun (x30, m25) =>
      some (x30, m25)
  else
    some (1, m)
def ju_deals (n : Nat) : Nat → Nat → Int32 → Int32 → rn_Mem → Option (Int32 × rn_Mem)
  | 0 => fun _ _ _ _ => none
  | k + 1 => ju_deals_1 (ju_deals n k) n
set_option maxHeartbeats 4000000 in
set_option maxRecDepth 20000 in
theorem ju_deals_l32_ok (xs : List Int32) {d : Nat} (hd : 0 ≤ d) {rec : Nat → Int32 → Int32 → rn_Mem → Option (Int32 × rn_Mem)} (hrec : ∀ {q1 : Nat} {a2 : Int32} {a3 : Int32} {mI mO : rn_Mem} {rO : Int32} , sA_Game q1 → rec q1 a2 a3 mI = some (rO, mO) → rn_R xs d 135 0 (rn_ent 6 [.ref 102, .ref q1, .int a2, .int a3]) [] (rn_SH, mI) (some (.int rO)) (rn_SH, mO)) {q1 : Nat} {a2 : Int32} {a3 : Int32} {r : Option Value} {τ : rn_H} {out : Int32 × rn_Mem} (hr : ∀ (z4 : Int32) (mO : rn_Mem), out = (z4, mO) → ∀ (o0 o1 o2 o3 o5 : Option Value), rn_R xs (d + 1) 135 109 [o0, o1, o2, o3, some (.int z4), o5] [] (rn_SH, mO) r τ) : ∀ (n : Nat) (a4 : Int32) (a5 : Int32) (m : rn_Mem), sA_Game q1 → ju_deals_l32 rec q1 a2 a3 n a4 a5 m = some out → rn_R xs (d + 1) 135 32 [some (.ref 102), some (.ref q1), some (.int a2), some (.int a3), some (.int a4), some (.int a5)] [] (rn_SH, m) r τ := by
  intro n
  induction n with
  | zero =>
    intro _ _ _ _ h
    cases h
  | succ n ih =>
    intro a4 a5 m hq1 h
    unfold ju_deals_l32 at h
    try dsimp only at h
    refine rx_p (L2 := [some (.ref 102), some (.ref q1), some (.int a2), some (.int a3), some (.int a4), some (.int a5)]) (S2 := [.int a5]) (pc2 := 34) op135_32 rfl rfl ?_
    refine rx_p (L2 := [some (.ref 102), some (.ref q1), some (.int a2), some (.int a3), some (.int a4), some (.int a5)]) (S2 := [.ref q1, .int a5]) (pc2 := 35) op135_34 rfl rfl ?_
    refine rx_gf (v := .int (m.1 q1 1)) (pc2 := 38) op135_35 hq1 rfl rfl rfl ?_
    refine ry_ic_ge (tgt := 109) (pc2 := 41) op135_38 (by decide) (by decide) rfl (fun b6 => ?_) (fun b6 => ?_)
    · have h := (if_pos b6).symm.trans h
      refine rx_p (L2 := [some (.ref 102), some (.ref q1), some (.int a2), some (.int a3), some (.int a4), some (.int a5)]) (S2 := [.ref 102]) (pc2 := 42) op135_41 rfl rfl ?_
      refine rx_gf (v := .ref 104) (pc2 := 45) op135_42 sp_102 rfl rfl rfl ?_
      refine rx_p (L2 := [some (.ref 102), some (.ref q1), some (.int a2), some (.int a3), some (.int a4), some (.int a5)]) (S2 := [.int a5, .ref 104]) (pc2 := 47) op135_45 rfl rfl ?_
      obtain ⟨k7, h⟩ := rq_chk h
      refine rx_ia (pc2 := 48) op135_47 (rn_shlt sp_104) sp_104 k7 rfl rfl ?_
      obtain ⟨⟨x21, m22⟩, gc24, h⟩ := rq_bind h
      try dsimp only at h
      have c24 : ∀ (_ : Unit), rn_R xs (d + 1) 135 103 [some (.ref 102), some (.ref q1), some (.int a2), some (.int a3), some (.int x21), some (.int a5)] [] (rn_SH, m22) r τ := by
        intro _
        obtain ⟨x23, ex23, h⟩ := rq_bv h
        refine rx_inc (w := 1) (v := x23) (L2 := [some (.ref 102), some (.ref q1), some (.int a2), some (.int a3), some (.int x21), some (.int x23)]) (pc2 := 106) op135_103 rfl (by decide) ex23 rfl rfl ?_
        refine ry_go (tgt := 32) op135_106 (by decide) (by decide) ?_
        exact ih _ _ _ hq1 h
      refine ry_if_le (tgt := 103) (pc2 := 51) op135_48 (by decide) (by decide) rfl (fun b8 => ?_) (fun b8 => ?_)
      · have gc24 := (if_pos b8).symm.trans gc24
        refine rx_p (L2 := [some (.ref 102), some (.ref q1), some (.int a2), some (.int a3), some (.int a4), some (.int a5)]) (S2 := [.ref 102]) (pc2 := 52) op135_51 rfl rfl ?_
        refine rx_gf (v := .ref 105) (pc2 := 55) op135_52 sp_102 rfl rfl rfl ?_
        refine rx_p (L2 := [some (.ref 102), some (.ref q1), some (.int a2), some (.int a3), some (.int a4), some (.int a5)]) (S2 := [.int a5, .ref 105]) (pc2 := 57) op135_55 rfl rfl ?_
        obtain ⟨k9, gc24⟩ := rq_chk gc24
        refine rx_ia (pc2 := 58) op135_57 (rn_shlt sp_105) sp_105 k9 rfl rfl ?_
        refine rx_p (L2 := [some (.ref 102), some (.ref q1), some (.int a2), some (.int a3), some (.int a4), some (.int a5)]) (S2 := [.int a3, .int (m.1 105 a5.toNatClampNeg)]) (pc2 := 59) op135_58 rfl rfl ?_
        refine rx_ic (v := 2) (pc2 := 60) op135_59 (by decide) rfl ?_
        refine rx_p (L2 := [some (.ref 102), some (.ref q1), some (.int a2), some (.int a3), some (.int a4), some (.int a5)]) (S2 := [.int (a3 >>> (2 &&& 31)), .int (m.1 105 a5.toNatClampNeg)]) (pc2 := 61) op135_60 rfl rfl ?_
        refine rx_p (L2 := [some (.ref 102), some (.ref q1), some (.int a2), some (.int a3), some (.int a4), some (.int a5)]) (S2 := [.int ((m.1 105 a5.toNatClampNeg) >>> ((a3 >>> (2 &&& 31)) &&& 31))]) (pc2 := 62) op135_61 rfl rfl ?_
        refine rx_ic (v := 1) (pc2 := 63) op135_62 (by decide) rfl ?_
        refine rx_p (L2 := [some (.ref 102), some (.ref q1), some (.int a2), some (.int a3), some (.int a4), some (.int a5)]) (S2 := [.int (((m.1 105 a5.toNatClampNeg) >>> ((a3 >>> (2 &&& 31)) &&& 31)) &&& 1)]) (pc2 := 64) op135_63 rfl rfl ?_
        refine ry_if_ne (tgt := 103) (pc2 := 67) op135_64 (by decide) (by decide) rfl (fun b10 => ?_) (fun b10 => ?_)
        · have gc24 := (if_pos b10).symm.trans gc24
          refine rx_p (L2 := [some (.ref 102), some (.ref q1), some (.int a2), some (.int a3), some (.int a4), some (.int a5)]) (S2 := [.ref 102]) (pc2 := 68) op135_67 rfl rfl ?_
          refine rx_gf (v := .ref 104) (pc2 := 71) op135_68 sp_102 rfl rfl rfl ?_
          refine rx_p (L2 := [some (.ref 102), some (.ref q1), some (.int a2), some (.int a3), some (.int a4), some (.int a5)]) (S2 := [.int a5, .ref 104]) (pc2 := 73) op135_71 rfl rfl ?_
          refine rx_p (L2 := [some (.ref 102), some (.ref q1), some (.int a2), some (.int a3), some (.int a4), some (.int a5)]) (S2 := [.int a5, .ref 104, .int a5, .ref 104]) (pc2 := 74) op135_73 rfl rfl ?_
          obtain ⟨k11, gc24⟩ := rq_chk gc24
          refine rx_ia (pc2 := 75) op135_74 (rn_shlt sp_104) sp_104 k11 rfl rfl ?_
          refine rx_ic (v := 1) (pc2 := 76) op135_75 (by decide) rfl ?_
          refine rx_p (L2 := [some (.ref 102), some (.ref q1), some (.int a2), some (.int a3), some (.int a4), some (.int a5)]) (S2 := [.int ((m.1 104 a5.toNatClampNeg) - 1), .int a5, .ref 104]) (pc2 := 77) op135_76 rfl rfl ?_
          obtain ⟨k13, gc24⟩ := rq_chk gc24
          obtain ⟨m12, em12, gc24⟩ := rq_bv gc24
          refine rx_is (m2 := m12) (pc2 := 78) op135_77 sp_104 k13 rfl em12 rfl ?_
          refine rx_p (L2 := [some (.ref 102), some (.ref q1), some (.int a2), some (.int a3), some (.int a4), some (.int a5)]) (S2 := [.int a4]) (pc2 := 80) op135_78 rfl rfl ?_
          refine rx_p (L2 := [some (.ref 102), some (.ref q1), some (.int a2), some (.int a3), some (.int a4), some (.int a5)]) (S2 := [.ref 102, .int a4]) (pc2 := 81) op135_80 rfl rfl ?_
          refine rx_p (L2 := [some (.ref 102), some (.ref q1), some (.int a2), some (.int a3), some (.int a4), some (.int a5)]) (S2 := [.ref q1, .ref 102, .int a4]) (pc2 := 82) op135_81 rfl rfl ?_
          refine rx_p (L2 := [some (.ref 102), some (.ref q1), some (.int a2), some (.int a3), some (.int a4), some (.int a5)]) (S2 := [.int a2, .ref q1, .ref 102, .int a4]) (pc2 := 83) op135_82 rfl rfl ?_
          refine rx_p (L2 := [some (.ref 102), some (.ref q1), some (.int a2), some (.int a3), some (.int a4), some (.int a5)]) (S2 := [.int a3, .int a2, .ref q1, .ref 102, .int a4]) (pc2 := 84) op135_83 rfl rfl ?_
          refine rx_ic (v := 1) (pc2 := 85) op135_84 (by decide) rfl ?_
          refine rx_p (L2 := [some (.ref 102), some (.ref q1), some (.int a2), some (.int a3), some (.int a4), some (.int a5)]) (S2 := [.int (a3 + 1), .int a2, .ref q1, .ref 102, .int a4]) (pc2 := 86) op135_85 rfl rfl ?_
          obtain ⟨⟨r15, m14⟩, f16, gc24⟩ := rq_bind gc24
          try dsimp only at gc24
          refine ry_iv (p := 102) (vs := [.ref q1, .int a2, .int (a3 + 1)]) (T := [.int a4]) (pc2 := 89) op135_86 ms_135 (by decide) rfl rfl (Nat.le_of_ble_eq_true rfl) (Nat.le_of_ble_eq_true rfl) sp_102 (hrec hq1 f16) rfl ?_
          show rn_R _ _ _ _ _ [.int r15, .int a4] _ _ _
          refine rx_p (L2 := [some (.ref 102), some (.ref q1), some (.int a2), some (.int a3), some (.int a4), some (.int a5)]) (S2 := [.int (a4 + r15)]) (pc2 := 90) op135_89 rfl rfl ?_
          obtain ⟨x17, ex17, gc24⟩ := rq_bv gc24
          refine rx_s (v := x17) (L2 := [some (.ref 102), some (.ref q1), some (.int a2), some (.int a3), some (.int x17), some (.int a5)]) (pc2 := 92) op135_90 ex17 rfl rfl ?_
          refine rx_p (L2 := [some (.ref 102), some (.ref q1), some (.int a2), some (.int a3), some (.int x17), some (.int a5)]) (S2 := [.ref 102]) (pc2 := 93) op135_92 rfl rfl ?_
          refine rx_gf (v := .ref 104) (pc2 := 96) op135_93 sp_102 rfl rfl rfl ?_
          refine rx_p (L2 := [some (.ref 102), some (.ref q1), some (.int a2), some (.int a3), some (.int x17), some (.int a5)]) (S2 := [.int a5, .ref 104]) (pc2 := 98) op135_96 rfl rfl ?_
          refine rx_p (L2 := [some (.ref 102), some (.ref q1), some (.int a2), some (.int a3), some (.int x17), some (.int a5)]) (S2 := [.int a5, .ref 104, .int a5, .ref 104]) (pc2 := 99) op135_98 rfl rfl ?_
          obtain ⟨k18, gc24⟩ := rq_chk gc24
          refine rx_ia (pc2 := 100) op135_99 (rn_shlt sp_104) sp_104 k18 rfl rfl ?_
          refine rx_ic (v := 1) (pc2 := 101) op135_100 (by decide) rfl ?_
          refine rx_p (L2 := [some (.ref 102), some (.ref q1), some (.int a2), some (.int a3), some (.int x17), some (.int a5)]) (S2 := [.int ((m14.1 104 a5.toNatClampNeg) + 1), .int a5, .ref 104]) (pc2 := 102) op135_101 rfl rfl ?_
          obtain ⟨k20, gc24⟩ := rq_chk gc24
          obtain ⟨m19, em19, gc24⟩ := rq_bv gc24
          refine rx_is (m2 := m19) (pc2 := 103) op135_102 sp_104 k20 rfl em19 rfl ?_
          cases gc24
          exact c24 ()
        · have gc24 := (if_neg b10).symm.trans gc24
          cases gc24
          exact c24 ()
      · have gc24 := (if_neg b8).symm.trans gc24
        cases gc24
        exact c24 ()
    · have h := (if_neg b6).symm.trans h
      cases h
      exact hr _ _ rfl _ _ _ _ _
set_option maxHeartbeats 4000000 in
set_option maxRecDepth 20000 in
theorem ju_deals_1_ok (xs : List Int32) {d : Nat} (hd : 0 ≤ d) {rec : Nat → Int32 → Int32 → rn_Mem → Option (Int32 × rn_Mem)} (hrec : ∀ {q1 : Nat} {a2 : Int32} {a3 : Int32} {mI mO : rn_Mem} {rO : Int32} , sA_Game q1 → rec q1 a2 a3 mI = some (rO, mO) → rn_R xs d 135 0 (rn_ent 6 [.ref 102, .ref q1, .int a2, .int a3]) [] (rn_SH, mI) (some (.int rO)) (rn_SH, mO)) {n : Nat} {q1 : Nat} {a2 : Int32} {a3 : Int32} {m mO : rn_Mem} {rO : Int32} (hq1 : sA_Game q1) (h : ju_deals_1 rec n q1 a2 a3 m = some (rO, mO)) : rn_R xs (d + 1) 135 0 (rn_ent 6 [.ref 102, .ref q1, .int a2, .int a3]) [] (rn_SH, m) (some (.int rO)) (rn_SH, mO) := by
  unfold ju_deals_1 at h
  show rn_R xs (d + 1) 135 0 [some (.ref 102), some (.ref q1), some (.int a2), some (.int a3), none, none] [] (rn_SH, m) (some (.int rO)) (rn_SH, mO)
  refine rx_p (L2 := [some (.ref 102), some (.ref q1), some (.int a2), some (.int a3), none, none]) (S2 := [.int a3]) (pc2 := 1) op135_0 rfl rfl ?_
  refine rx_bp (v := 16) (pc2 := 3) op135_1 (by decide) rfl ?_
  refine ry_ic_lt (tgt := 8) (pc2 := 6) op135_3 (by decide) (by decide) rfl (fun b1 => ?_) (fun b1 => ?_)
  · have h := (if_pos b1).symm.trans h
    refine rx_p (L2 := [some (.ref 102), some (.ref q1), some (.int a2), some (.int a3), none, none]) (S2 := [.int a2]) (pc2 := 9) op135_8 rfl rfl ?_
    refine rx_p (L2 := [some (.ref 102), some (.ref q1), some (.int a2), some (.int a3), none, none]) (S2 := [.int a3, .int a2]) (pc2 := 10) op135_9 rfl rfl ?_
    refine rx_p (L2 := [some (.ref 102), some (.ref q1), some (.int a2), some (.int a3), none, none]) (S2 := [.int (a2 >>> (a3 &&& 31))]) (pc2 := 11) op135_10 rfl rfl ?_
    refine rx_ic (v := 1) (pc2 := 12) op135_11 (by decide) rfl ?_
    refine rx_p (L2 := [some (.ref 102), some (.ref q1), some (.int a2), some (.int a3), none, none]) (S2 := [.int ((a2 >>> (a3 &&& 31)) &&& 1)]) (pc2 := 13) op135_12 rfl rfl ?_
    refine ry_if_ne (tgt := 26) (pc2 := 16) op135_13 (by decide) (by decide) rfl (fun b2 => ?_) (fun b2 => ?_)
    · have h := (if_pos b2).symm.trans h
      refine rx_p (L2 := [some (.ref 102), some (.ref q1), some (.int a2), some (.int a3), none, none]) (S2 := [.ref 102]) (pc2 := 17) op135_16 rfl rfl ?_
      refine rx_p (L2 := [some (.ref 102), some (.ref q1), some (.int a2), some (.int a3), none, none]) (S2 := [.ref q1, .ref 102]) (pc2 := 18) op135_17 rfl rfl ?_
      refine rx_p (L2 := [some (.ref 102), some (.ref q1), some (.int a2), some (.int a3), none, none]) (S2 := [.int a2, .ref q1, .ref 102]) (pc2 := 19) op135_18 rfl rfl ?_
      refine rx_p (L2 := [some (.ref 102), some (.ref q1), some (.int a2), some (.int a3), none, none]) (S2 := [.int a3, .int a2, .ref q1, .ref 102]) (pc2 := 20) op135_19 rfl rfl ?_
      refine rx_ic (v := 1) (pc2 := 21) op135_20 (by decide) rfl ?_
      refine rx_p (L2 := [some (.ref 102), some (.ref q1), some (.int a2), some (.int a3), none, none]) (S2 := [.int (a3 + 1), .int a2, .ref q1, .ref 102]) (pc2 := 22) op135_21 rfl rfl ?_
      obtain ⟨⟨r4, m3⟩, f5, h⟩ := rq_bind h
      try dsimp only at h
      refine ry_iv (p := 102) (vs := [.ref q1, .int a2, .int (a3 + 1)]) (T := []) (pc2 := 25) op135_22 ms_135 (by decide) rfl rfl (Nat.le_of_ble_eq_true rfl) (Nat.le_of_ble_eq_true rfl) sp_102 (hrec hq1 f5) rfl ?_
      show rn_R _ _ _ _ _ [.int r4] _ _ _
      obtain ⟨rfl, rfl⟩ := rq_ret h
      exact ry_ri op135_25 ms_135 rfl
    · have h := (if_neg b2).symm.trans h
      refine rx_ic (v := 0) (pc2 := 27) op135_26 (by decide) rfl ?_
      refine rx_s (L2 := [some (.ref 102), some (.ref q1), some (.int a2), some (.int a3), some (.int 0), none]) (pc2 := 29) op135_27 rfl rfl rfl ?_
      refine rx_ic (v := 0) (pc2 := 30) op135_29 (by decide) rfl ?_
      refine rx_s (L2 := [some (.ref 102), some (.ref q1), some (.int a2), some (.int a3), some (.int 0), some (.int 0)]) (pc2 := 32) op135_30 rfl rfl rfl ?_
      obtain ⟨wf32, f32, h⟩ := rq_bind h
      refine ju_deals_l32_ok xs hd hrec (fun x30 m25 eq => ?_) _ _ _ _ hq1 f32
      subst eq
      try dsimp only at h
      intro o26 o27 o28 o29 o31
      refine rx_p (L2 := [o26, o27, o28, o29, some (.int x30), o31]) (S2 := [.int x30]) (pc2 := 111) op135_109 rfl rfl ?_
      obtain ⟨rfl, rfl⟩ := rq_ret h
      exact ry_ri op135_111 ms_135 rfl
  · have h := (if_neg b1).symm.trans h
    refine rx_ic (v := 1) (pc2 := 7) op135_6 (by decide) rfl ?_
    obtain ⟨rfl, rfl⟩ := rq_ret h
    exact ry_ri op135_7 ms_135 rfl
set_option maxHeartbeats 4000000 in
set_option maxRecDepth 20000 in
theorem ju_deals_ok (xs : List Int32) : ∀ (k : Nat) {d : Nat} (hd : 1 * k + 0 ≤ d) {n : Nat} {q1 : Nat} {a2 : Int32} {a3 : Int32} {m mO : rn_Mem} {rO : Int32} (hq1 : sA_Game q1) (h : ju_deals n k q1 a2 a3 m = some (rO, mO)), rn_R xs d 135 0 (rn_ent 6 [.ref 102, .ref q1, .int a2, .int a3]) [] (rn_SH, m) (some (.int rO)) (rn_SH, mO)
  | 0, d, hd, n, q1, a2, a3, m, mO, rO, hq1, h => by cases h
  | k + 1, d, hd, n, q1, a2, a3, m, mO, rO, hq1, h => by
    obtain ⟨d, rfl⟩ : ∃ e, d = e + 1 := ⟨d - 1, by omega⟩
    exact ju_deals_1_ok xs (by omega) (fun hq1 h => ju_deals_ok xs k (by omega) hq1 h) hq1 h
/-! ju_thinkable -/
theorem op133_0 : rn_op 133 0 = some (.aload_n 0, 1, 0, 0, 0) := by decide +kernel
theorem op133_1 : rn_op 133 1 = some (.aload_n 1, 1, 0, 0, 0) := by decide +kernel
theorem op133_2 : rn_op 133 2 = some (.aload_n 2, 1, 0, 0, 0) := by decide +kernel
theorem op133_3 : rn_op 133 3 = some (.iload 4, 2, 0, 0, 0) := by decide +kernel
theorem op133_5 : rn_op 133 5 = some (.aload_n 1, 1, 0, 0, 0) := by decide +kernel
theorem op133_6 : rn_op 133 6 = some (.getfield 46, 3, 1, 1, 0) := by decide +kernel
theorem op133_9 : rn_op 133 9 = some (.imul, 1, 0, 0, 0) := by decide +kernel
theorem op133_10 : rn_op 133 10 = some (.invokevirtual 21, 3, 116, 4, 2) := by decide +kernel
theorem op133_13 : rn_op 133 13 = some (.iconst 0, 1, 0, 0, 0) := by decide +kernel
theorem op133_14 : rn_op 133 14 = some (.istore 5, 2, 0, 0, 0) := by decide +kernel
theorem op133_16 : rn_op 133 16 = some (.iconst 0, 1, 0, 0, 0) := by decide +kernel
theorem op133_17 : rn_op 133 17 = some (.istore 6, 2, 0, 0, 0) := by decide +kernel
theorem op133_19 : rn_op 133 19 = some (.iload 6, 2, 0, 0, 0) := by decide +kernel
theorem op133_21 : rn_op 133 21 = some (.aload_n 1, 1, 0, 0, 0) := by decide +kernel
theorem op133_22 : rn_op 133 22 = some (.getfield 46, 3, 1, 1, 0) := by decide +kernel
theorem op133_25 : rn_op 133 25 = some (.if_icmp .ge 63, 3, 0, 0, 0) := by decide +kernel
theorem op133_28 : rn_op 133 28 = some (.iload 5, 2, 0, 0, 0) := by decide +kernel
theorem op133_30 : rn_op 133 30 = some (.iload 6, 2, 0, 0, 0) := by decide +kernel
theorem op133_32 : rn_op 133 32 = some (.iload_n 3, 1, 0, 0, 0) := by decide +kernel
theorem op133_33 : rn_op 133 33 = some (.if_icmp .ne 7, 3, 0, 0, 0) := by decide +kernel
theorem op133_36 : rn_op 133 36 = some (.iconst 0, 1, 0, 0, 0) := by decide +kernel
theorem op133_37 : rn_op 133 37 = some (.goto 10, 3, 0, 0, 0) := by decide +kernel
theorem op133_40 : rn_op 133 40 = some (.aload_n 0, 1, 0, 0, 0) := by decide +kernel
theorem op133_41 : rn_op 133 41 = some (.getfield 9, 3, 2, 0, 3) := by decide +kernel
theorem op133_44 : rn_op 133 44 = some (.iload 6, 2, 0, 0, 0) := by decide +kernel
theorem op133_46 : rn_op 133 46 = some (.iaload, 1, 0, 0, 0) := by decide +kernel
theorem op133_47 : rn_op 133 47 = some (.ior, 1, 0, 0, 0) := by decide +kernel
theorem op133_48 : rn_op 133 48 = some (.istore 5, 2, 0, 0, 0) := by decide +kernel
theorem op133_50 : rn_op 133 50 = some (.aload_n 0, 1, 0, 0, 0) := by decide +kernel
theorem op133_51 : rn_op 133 51 = some (.getfield 15, 3, 2, 1, 3) := by decide +kernel
theorem op133_54 : rn_op 133 54 = some (.iload 6, 2, 0, 0, 0) := by decide +kernel
theorem op133_56 : rn_op 133 56 = some (.iload 6, 2, 0, 0, 0) := by decide +kernel
theorem op133_58 : rn_op 133 58 = some (.iload_n 3, 1, 0, 0, 0) := by decide +kernel
theorem op133_59 : rn_op 133 59 = some (.if_icmp .ne 7, 3, 0, 0, 0) := by decide +kernel
theorem op133_62 : rn_op 133 62 = some (.iconst 0, 1, 0, 0, 0) := by decide +kernel
theorem op133_63 : rn_op 133 63 = some (.goto 10, 3, 0, 0, 0) := by decide +kernel
theorem op133_66 : rn_op 133 66 = some (.aload_n 1, 1, 0, 0, 0) := by decide +kernel
theorem op133_67 : rn_op 133 67 = some (.getfield 82, 3, 1, 2, 0) := by decide +kernel
theorem op133_70 : rn_op 133 70 = some (.iload 4, 2, 0, 0, 0) := by decide +kernel
theorem op133_72 : rn_op 133 72 = some (.isub, 1, 0, 0, 0) := by decide +kernel
theorem op133_73 : rn_op 133 73 = some (.iastore, 1, 0, 0, 0) := by decide +kernel
theorem op133_74 : rn_op 133 74 = some (.aload_n 0, 1, 0, 0, 0) := by decide +kernel
theorem op133_75 : rn_op 133 75 = some (.getfield 18, 3, 2, 2, 3) := by decide +kernel
theorem op133_78 : rn_op 133 78 = some (.iload 6, 2, 0, 0, 0) := by decide +kernel
theorem op133_80 : rn_op 133 80 = some (.iconst 0, 1, 0, 0, 0) := by decide +kernel
theorem op133_81 : rn_op 133 81 = some (.iastore, 1, 0, 0, 0) := by decide +kernel
theorem op133_82 : rn_op 133 82 = some (.iinc 6 1, 3, 0, 0, 0) := by decide +kernel
theorem op133_85 : rn_op 133 85 = some (.goto (-66), 3, 0, 0, 0) := by decide +kernel
theorem op133_88 : rn_op 133 88 = some (.aload_n 1, 1, 0, 0, 0) := by decide +kernel
theorem op133_89 : rn_op 133 89 = some (.getfield 85, 3, 1, 5, 0) := by decide +kernel
theorem op133_92 : rn_op 133 92 = some (.iconst 1, 1, 0, 0, 0) := by decide +kernel
theorem op133_93 : rn_op 133 93 = some (.if_icmp .eq 11, 3, 0, 0, 0) := by decide +kernel
theorem op133_96 : rn_op 133 96 = some (.aload_n 0, 1, 0, 0, 0) := by decide +kernel
theorem op133_97 : rn_op 133 97 = some (.aload_n 1, 1, 0, 0, 0) := by decide +kernel
theorem op133_98 : rn_op 133 98 = some (.aload_n 2, 1, 0, 0, 0) := by decide +kernel
theorem op133_99 : rn_op 133 99 = some (.iload 4, 2, 0, 0, 0) := by decide +kernel
theorem op133_101 : rn_op 133 101 = some (.invokevirtual 88, 3, 134, 4, 2) := by decide +kernel
theorem op133_104 : rn_op 133 104 = some (.aload_n 0, 1, 0, 0, 0) := by decide +kernel
theorem op133_105 : rn_op 133 105 = some (.aload_n 1, 1, 0, 0, 0) := by decide +kernel
theorem op133_106 : rn_op 133 106 = some (.iload 5, 2, 0, 0, 0) := by decide +kernel
theorem op133_108 : rn_op 133 108 = some (.iconst 0, 1, 0, 0, 0) := by decide +kernel
theorem op133_109 : rn_op 133 109 = some (.invokevirtual 91, 3, 135, 4, 2) := by decide +kernel
theorem op133_112 : rn_op 133 112 = some (.ireturn, 1, 0, 0, 0) := by decide +kernel
def ju_thinkable_l19 (q1 : Nat) (q2 : Nat) (a3 : Int32) (a4 : Int32) : Nat → Int32 → Int32 → rn_Mem → Option (Int32 × rn_Mem)
  | 0, _, _, _ => none
  | n + 1, a5, a6, m =>
    if a6 < (m.1 q1 1) then
      (show Option (Int32) from
        if a6 = a3 then
          some (0)
        else
          if rn_in a6 4 = true then
            some (m.1 103 a6.toNatClampNeg)
          else none).bind fun x7 =>
      (some (a5 ||| x7)).bind fun (x8 : Int32) =>
      (show Option (Int32) from
        if a6 = a3 then
          some (0)
        else
          some ((m.1 q1 2) - a4)).bind fun x10 =>
      if rn_in a6 4 = true then
        (some (rm_i m 104 a6.toNatClampNeg x10)).bind fun (m11 : rn_Mem) =>
        if rn_in a6 4 = true then
          (some (rm_i m11 105 a6.toNatClampNeg 0)).bind fun (m13 : rn_Mem) =>
          (some (a6 + 1)).bind fun (x15 : Int32) =>
          ju_thinkable_l19 q1 q2 a3 a4 n x8 x15 m13
        else none
      else none
    else
      some (a5, m)
def ju_thinkable (n : Nat) (q1 : Nat) (q2 : Nat) (a3 : Int32) (a4 : Int32) (m : rn_Mem) : Option (Int32 × rn_Mem) :=
  (ju_deal n q1 q2 (a4 * (m.1 q1 1)) m).bind fun m1 =>
  (ju_thinkable_l19 q1 q2 a3 a4 n 0 0 m1).bind fun (x20, m18) =>
  (show Option (rn_Mem) from
    if (m18.1 q1 5) = 1 then
      some (m18)
    else
      (ju_noteLacks n q1 q2 a4 m18).bind fun m23 =>
      some (m23)).bind fun m29 =>
  (ju_deals n 17 q1 x20 0 m29).bind fun (r31, m30) =>
  some (r31, m30)
set_option maxHeartbeats 4000000 in
set_option maxRecDepth 20000 in
theorem ju_thinkable_l19_ok (xs : List Int32) {d : Nat} (hd : 19 ≤ d + 1) {q1 : Nat} {q2 : Nat} {a3 : Int32} {a4 : Int32} {r : Option Value} {τ : rn_H} {out : Int32 × rn_Mem} (hr : ∀ (z5 : Int32) (mO : rn_Mem), out = (z5, mO) → ∀ (o3 o6 : Option Value), rn_R xs (d + 1) 133 88 [some (.ref 102), some (.ref q1), some (.ref q2), o3, some (.int a4), some (.int z5), o6] [] (rn_SH, mO) r τ) : ∀ (n : Nat) (a5 : Int32) (a6 : Int32) (m : rn_Mem), sA_Game q1 → sA_Row q2 → ju_thinkable_l19 q1 q2 a3 a4 n a5 a6 m = some out → rn_R xs (d + 1) 133 19 [some (.ref 102), some (.ref q1), some (.ref q2), some (.int a3), some (.int a4), some (.int a5), some (.int a6)] [] (rn_SH, m) r τ := by
  intro n
  induction n with
  | zero =>
    intro _ _ _ _ _ h
    cases h
  | succ n ih =>
    intro a5 a6 m hq1 hq2 h
    unfold ju_thinkable_l19 at h
    try dsimp only at h
    refine rx_p (L2 := [some (.ref 102), some (.ref q1), some (.ref q2), some (.int a3), some (.int a4), some (.int a5), some (.int a6)]) (S2 := [.int a6]) (pc2 := 21) op133_19 rfl rfl ?_
    refine rx_p (L2 := [some (.ref 102), some (.ref q1), some (.ref q2), some (.int a3), some (.int a4), some (.int a5), some (.int a6)]) (S2 := [.ref q1, .int a6]) (pc2 := 22) op133_21 rfl rfl ?_
    refine rx_gf (v := .int (m.1 q1 1)) (pc2 := 25) op133_22 hq1 rfl rfl rfl ?_
    refine ry_ic_ge (tgt := 88) (pc2 := 28) op133_25 (by decide) (by decide) rfl (fun b3 => ?_) (fun b3 => ?_)
    · have h := (if_pos b3).symm.trans h
      refine rx_p (L2 := [some (.ref 102), some (.ref q1), some (.ref q2), some (.int a3), some (.int a4), some (.int a5), some (.int a6)]) (S2 := [.int a5]) (pc2 := 30) op133_28 rfl rfl ?_
      refine rx_p (L2 := [some (.ref 102), some (.ref q1), some (.ref q2), some (.int a3), some (.int a4), some (.int a5), some (.int a6)]) (S2 := [.int a6, .int a5]) (pc2 := 32) op133_30 rfl rfl ?_
      refine rx_p (L2 := [some (.ref 102), some (.ref q1), some (.ref q2), some (.int a3), some (.int a4), some (.int a5), some (.int a6)]) (S2 := [.int a3, .int a6, .int a5]) (pc2 := 33) op133_32 rfl rfl ?_
      obtain ⟨x7, gc17, h⟩ := rq_bind h
      try dsimp only at h
      have c17 : ∀ (o6 : Option Value), rn_R xs (d + 1) 133 47 [some (.ref 102), some (.ref q1), some (.ref q2), some (.int a3), some (.int a4), o6, some (.int a6)] [.int x7, .int a5] (rn_SH, m) r τ := by
        intro o6
        refine rx_p (L2 := [some (.ref 102), some (.ref q1), some (.ref q2), some (.int a3), some (.int a4), o6, some (.int a6)]) (S2 := [.int (a5 ||| x7)]) (pc2 := 48) op133_47 rfl rfl ?_
        obtain ⟨x8, ex8, h⟩ := rq_bv h
        refine rx_s (v := x8) (L2 := [some (.ref 102), some (.ref q1), some (.ref q2), some (.int a3), some (.int a4), some (.int x8), some (.int a6)]) (pc2 := 50) op133_48 ex8 rfl rfl ?_
        refine rx_p (L2 := [some (.ref 102), some (.ref q1), some (.ref q2), some (.int a3), some (.int a4), some (.int x8), some (.int a6)]) (S2 := [.ref 102]) (pc2 := 51) op133_50 rfl rfl ?_
        refine rx_gf (v := .ref 104) (pc2 := 54) op133_51 sp_102 rfl rfl rfl ?_
        refine rx_p (L2 := [some (.ref 102), some (.ref q1), some (.ref q2), some (.int a3), some (.int a4), some (.int x8), some (.int a6)]) (S2 := [.int a6, .ref 104]) (pc2 := 56) op133_54 rfl rfl ?_
        refine rx_p (L2 := [some (.ref 102), some (.ref q1), some (.ref q2), some (.int a3), some (.int a4), some (.int x8), some (.int a6)]) (S2 := [.int a6, .int a6, .ref 104]) (pc2 := 58) op133_56 rfl rfl ?_
        refine rx_p (L2 := [some (.ref 102), some (.ref q1), some (.ref q2), some (.int a3), some (.int a4), some (.int x8), some (.int a6)]) (S2 := [.int a3, .int a6, .int a6, .ref 104]) (pc2 := 59) op133_58 rfl rfl ?_
        obtain ⟨x10, gc16, h⟩ := rq_bind h
        try dsimp only at h
        have c16 : ∀ (_ : Unit), rn_R xs (d + 1) 133 73 [some (.ref 102), some (.ref q1), some (.ref q2), some (.int a3), some (.int a4), some (.int x8), some (.int a6)] [.int x10, .int a6, .ref 104] (rn_SH, m) r τ := by
          intro _
          obtain ⟨k12, h⟩ := rq_chk h
          obtain ⟨m11, em11, h⟩ := rq_bv h
          refine rx_is (m2 := m11) (pc2 := 74) op133_73 sp_104 k12 rfl em11 rfl ?_
          refine rx_p (L2 := [some (.ref 102), some (.ref q1), some (.ref q2), some (.int a3), some (.int a4), some (.int x8), some (.int a6)]) (S2 := [.ref 102]) (pc2 := 75) op133_74 rfl rfl ?_
          refine rx_gf (v := .ref 105) (pc2 := 78) op133_75 sp_102 rfl rfl rfl ?_
          refine rx_p (L2 := [some (.ref 102), some (.ref q1), some (.ref q2), some (.int a3), some (.int a4), some (.int x8), some (.int a6)]) (S2 := [.int a6, .ref 105]) (pc2 := 80) op133_78 rfl rfl ?_
          refine rx_ic (v := 0) (pc2 := 81) op133_80 (by decide) rfl ?_
          obtain ⟨k14, h⟩ := rq_chk h
          obtain ⟨m13, em13, h⟩ := rq_bv h
          refine rx_is (m2 := m13) (pc2 := 82) op133_81 sp_105 k14 rfl em13 rfl ?_
          obtain ⟨x15, ex15, h⟩ := rq_bv h
          refine rx_inc (w := 1) (v := x15) (L2 := [some (.ref 102), some (.ref q1), some (.ref q2), some (.int a3), some (.int a4), some (.int x8), some (.int x15)]) (pc2 := 85) op133_82 rfl (by decide) ex15 rfl rfl ?_
          refine ry_go (tgt := 19) op133_85 (by decide) (by decide) ?_
          exact ih _ _ _ hq1 hq2 h
        refine ry_ic_ne (tgt := 66) (pc2 := 62) op133_59 (by decide) (by decide) rfl (fun b9 => ?_) (fun b9 => ?_)
        · have gc16 := (if_pos b9).symm.trans gc16
          refine rx_ic (v := 0) (pc2 := 63) op133_62 (by decide) rfl ?_
          refine ry_go (tgt := 73) op133_63 (by decide) (by decide) ?_
          cases gc16
          exact c16 ()
        · have gc16 := (if_neg b9).symm.trans gc16
          refine rx_p (L2 := [some (.ref 102), some (.ref q1), some (.ref q2), some (.int a3), some (.int a4), some (.int x8), some (.int a6)]) (S2 := [.ref q1, .int a6, .ref 104]) (pc2 := 67) op133_66 rfl rfl ?_
          refine rx_gf (v := .int (m.1 q1 2)) (pc2 := 70) op133_67 hq1 rfl rfl rfl ?_
          refine rx_p (L2 := [some (.ref 102), some (.ref q1), some (.ref q2), some (.int a3), some (.int a4), some (.int x8), some (.int a6)]) (S2 := [.int a4, .int (m.1 q1 2), .int a6, .ref 104]) (pc2 := 72) op133_70 rfl rfl ?_
          refine rx_p (L2 := [some (.ref 102), some (.ref q1), some (.ref q2), some (.int a3), some (.int a4), some (.int x8), some (.int a6)]) (S2 := [.int ((m.1 q1 2) - a4), .int a6, .ref 104]) (pc2 := 73) op133_72 rfl rfl ?_
          cases gc16
          exact c16 ()
      refine ry_ic_ne (tgt := 40) (pc2 := 36) op133_33 (by decide) (by decide) rfl (fun b4 => ?_) (fun b4 => ?_)
      · have gc17 := (if_pos b4).symm.trans gc17
        refine rx_ic (v := 0) (pc2 := 37) op133_36 (by decide) rfl ?_
        refine ry_go (tgt := 47) op133_37 (by decide) (by decide) ?_
        cases gc17
        exact c17 _
      · have gc17 := (if_neg b4).symm.trans gc17
        refine rx_p (L2 := [some (.ref 102), some (.ref q1), some (.ref q2), some (.int a3), some (.int a4), some (.int a5), some (.int a6)]) (S2 := [.ref 102, .int a5]) (pc2 := 41) op133_40 rfl rfl ?_
        refine rx_gf (v := .ref 103) (pc2 := 44) op133_41 sp_102 rfl rfl rfl ?_
        refine rx_p (L2 := [some (.ref 102), some (.ref q1), some (.ref q2), some (.int a3), some (.int a4), some (.int a5), some (.int a6)]) (S2 := [.int a6, .ref 103, .int a5]) (pc2 := 46) op133_44 rfl rfl ?_
        obtain ⟨k5, gc17⟩ := rq_chk gc17
        refine rx_ia (pc2 := 47) op133_46 (rn_shlt sp_103) sp_103 k5 rfl rfl ?_
        cases gc17
        exact c17 _
    · have h := (if_neg b3).symm.trans h
      cases h
      exact hr _ _ rfl _ _
set_option maxHeartbeats 4000000 in
set_option maxRecDepth 20000 in
theorem ju_thinkable_ok (xs : List Int32) {d : Nat} (hd : 19 ≤ d) {n : Nat} {q1 : Nat} {q2 : Nat} {a3 : Int32} {a4 : Int32} {m mO : rn_Mem} {rO : Int32} (hq1 : sA_Game q1) (hq2 : sA_Row q2) (h : ju_thinkable n q1 q2 a3 a4 m = some (rO, mO)) : rn_R xs d 133 0 (rn_ent 7 [.ref 102, .ref q1, .ref q2, .int a3, .int a4]) [] (rn_SH, m) (some (.int rO)) (rn_SH, mO) := by
  obtain ⟨d, rfl⟩ : ∃ e, d = e + 1 := ⟨d - 1, by omega⟩
  unfold ju_thinkable at h
  show rn_R xs (d + 1) 133 0 [some (.ref 102), some (.ref q1), some (.ref q2), some (.int a3), some (.int a4), none, none] [] (rn_SH, m) (some (.int rO)) (rn_SH, mO)
  refine rx_p (L2 := [some (.ref 102), some (.ref q1), some (.ref q2), some (.int a3), some (.int a4), none, none]) (S2 := [.ref 102]) (pc2 := 1) op133_0 rfl rfl ?_
  refine rx_p (L2 := [some (.ref 102), some (.ref q1), some (.ref q2), some (.int a3), some (.int a4), none, none]) (S2 := [.ref q1, .ref 102]) (pc2 := 2) op133_1 rfl rfl ?_
  refine rx_p (L2 := [some (.ref 102), some (.ref q1), some (.ref q2), some (.int a3), some (.int a4), none, none]) (S2 := [.ref q2, .ref q1, .ref 102]) (pc2 := 3) op133_2 rfl rfl ?_
  refine rx_p (L2 := [some (.ref 102), some (.ref q1), some (.ref q2), some (.int a3), some (.int a4), none, none]) (S2 := [.int a4, .ref q2, .ref q1, .ref 102]) (pc2 := 5) op133_3 rfl rfl ?_
  refine rx_p (L2 := [some (.ref 102), some (.ref q1), some (.ref q2), some (.int a3), some (.int a4), none, none]) (S2 := [.ref q1, .int a4, .ref q2, .ref q1, .ref 102]) (pc2 := 6) op133_5 rfl rfl ?_
  refine rx_gf (v := .int (m.1 q1 1)) (pc2 := 9) op133_6 hq1 rfl rfl rfl ?_
  refine rx_p (L2 := [some (.ref 102), some (.ref q1), some (.ref q2), some (.int a3), some (.int a4), none, none]) (S2 := [.int (a4 * (m.1 q1 1)), .ref q2, .ref q1, .ref 102]) (pc2 := 10) op133_9 rfl rfl ?_
  obtain ⟨m1, f2, h⟩ := rq_bind h
  try dsimp only at h
  refine ry_iv (p := 102) (vs := [.ref q1, .ref q2, .int (a4 * (m.1 q1 1))]) (T := []) (pc2 := 13) op133_10 ms_116 (by decide) rfl rfl (Nat.le_of_ble_eq_true rfl) (Nat.le_of_ble_eq_true rfl) sp_102 (ju_deal_ok xs (by omega) hq1 hq2 f2) rfl ?_
  show rn_R _ _ _ _ _ [] _ _ _
  refine rx_ic (v := 0) (pc2 := 14) op133_13 (by decide) rfl ?_
  refine rx_s (L2 := [some (.ref 102), some (.ref q1), some (.ref q2), some (.int a3), some (.int a4), some (.int 0), none]) (pc2 := 16) op133_14 rfl rfl rfl ?_
  refine rx_ic (v := 0) (pc2 := 17) op133_16 (by decide) rfl ?_
  refine rx_s (L2 := [some (.ref 102), some (.ref q1), some (.ref q2), some (.int a3), some (.int a4), some (.int 0), some (.int 0)]) (pc2 := 19) op133_17 rfl rfl rfl ?_
  obtain ⟨wf34, f34, h⟩ := rq_bind h
  refine ju_thinkable_l19_ok xs hd (fun x20 m18 eq => ?_) _ _ _ _ hq1 hq2 f34
  subst eq
  try dsimp only at h
  intro o19 o21
  refine rx_p (L2 := [some (.ref 102), some (.ref q1), some (.ref q2), o19, some (.int a4), some (.int x20), o21]) (S2 := [.ref q1]) (pc2 := 89) op133_88 rfl rfl ?_
  refine rx_gf (v := .int (m18.1 q1 5)) (pc2 := 92) op133_89 hq1 rfl rfl rfl ?_
  refine rx_ic (v := 1) (pc2 := 93) op133_92 (by decide) rfl ?_
  obtain ⟨m29, gc33, h⟩ := rq_bind h
  try dsimp only at h
  have c33 : ∀ (o25 o26 o27 o28 : Option Value), rn_R xs (d + 1) 133 104 [some (.ref 102), some (.ref q1), o25, o26, o27, some (.int x20), o28] [] (rn_SH, m29) (some (.int rO)) (rn_SH, mO) := by
    intro o25 o26 o27 o28
    refine rx_p (L2 := [some (.ref 102), some (.ref q1), o25, o26, o27, some (.int x20), o28]) (S2 := [.ref 102]) (pc2 := 105) op133_104 rfl rfl ?_
    refine rx_p (L2 := [some (.ref 102), some (.ref q1), o25, o26, o27, some (.int x20), o28]) (S2 := [.ref q1, .ref 102]) (pc2 := 106) op133_105 rfl rfl ?_
    refine rx_p (L2 := [some (.ref 102), some (.ref q1), o25, o26, o27, some (.int x20), o28]) (S2 := [.int x20, .ref q1, .ref 102]) (pc2 := 108) op133_106 rfl rfl ?_
    refine rx_ic (v := 0) (pc2 := 109) op133_108 (by decide) rfl ?_
    obtain ⟨⟨r31, m30⟩, f32, h⟩ := rq_bind h
    try dsimp only at h
    refine ry_iv (p := 102) (vs := [.ref q1, .int x20, .int 0]) (T := []) (pc2 := 112) op133_109 ms_135 (by decide) rfl rfl (Nat.le_of_ble_eq_true rfl) (Nat.le_of_ble_eq_true rfl) sp_102 (ju_deals_ok xs 17 (by omega) hq1 f32) rfl ?_
    show rn_R _ _ _ _ _ [.int r31] _ _ _
    obtain ⟨rfl, rfl⟩ := rq_ret h
    exact ry_ri op133_112 ms_133 rfl
  refine ry_ic_eq (tgt := 104) (pc2 := 96) op133_93 (by decide) (by decide) rfl (fun b22 => ?_) (fun b22 => ?_)
  · have gc33 := (if_pos b22).symm.trans gc33
    cases gc33
    exact c33 _ _ _ _
  · have gc33 := (if_neg b22).symm.trans gc33
    refine rx_p (L2 := [some (.ref 102), some (.ref q1), some (.ref q2), o19, some (.int a4), some (.int x20), o21]) (S2 := [.ref 102]) (pc2 := 97) op133_96 rfl rfl ?_
    refine rx_p (L2 := [some (.ref 102), some (.ref q1), some (.ref q2), o19, some (.int a4), some (.int x20), o21]) (S2 := [.ref q1, .ref 102]) (pc2 := 98) op133_97 rfl rfl ?_
    refine rx_p (L2 := [some (.ref 102), some (.ref q1), some (.ref q2), o19, some (.int a4), some (.int x20), o21]) (S2 := [.ref q2, .ref q1, .ref 102]) (pc2 := 99) op133_98 rfl rfl ?_
    refine rx_p (L2 := [some (.ref 102), some (.ref q1), some (.ref q2), o19, some (.int a4), some (.int x20), o21]) (S2 := [.int a4, .ref q2, .ref q1, .ref 102]) (pc2 := 101) op133_99 rfl rfl ?_
    obtain ⟨m23, f24, gc33⟩ := rq_bind gc33
    try dsimp only at gc33
    refine ry_iv (p := 102) (vs := [.ref q1, .ref q2, .int a4]) (T := []) (pc2 := 104) op133_101 ms_134 (by decide) rfl rfl (Nat.le_of_ble_eq_true rfl) (Nat.le_of_ble_eq_true rfl) sp_102 (ju_noteLacks_ok xs (by omega) hq1 hq2 f24) rfl ?_
    show rn_R _ _ _ _ _ [] _ _ _
    cases gc33
    exact c33 _ _ _ _
/-! lt_knows -/
theorem op132_0 : rn_op 132 0 = some (.iload_n 1, 1, 0, 0, 0) := by decide +kernel
theorem op132_1 : rn_op 132 1 = some (.invokestatic 132, 3, 39, 1, 0) := by decide +kernel
theorem op132_4 : rn_op 132 4 = some (.ifCond .ne 10, 3, 0, 0, 0) := by decide +kernel
theorem op132_7 : rn_op 132 7 = some (.iload_n 2, 1, 0, 0, 0) := by decide +kernel
theorem op132_8 : rn_op 132 8 = some (.invokestatic 198, 3, 96, 1, 0) := by decide +kernel
theorem op132_11 : rn_op 132 11 = some (.ifCond .eq 5, 3, 0, 0, 0) := by decide +kernel
theorem op132_14 : rn_op 132 14 = some (.iconst (-1), 1, 0, 0, 0) := by decide +kernel
theorem op132_15 : rn_op 132 15 = some (.ireturn, 1, 0, 0, 0) := by decide +kernel
theorem op132_16 : rn_op 132 16 = some (.aload_n 0, 1, 0, 0, 0) := by decide +kernel
theorem op132_17 : rn_op 132 17 = some (.getfield 19, 3, 10, 1, 3) := by decide +kernel
theorem op132_20 : rn_op 132 20 = some (.getfield 125, 3, 6, 3, 3) := by decide +kernel
theorem op132_23 : rn_op 132 23 = some (.getfield 129, 3, 3, 0, 2) := by decide +kernel
theorem op132_26 : rn_op 132 26 = some (.ifCond .ne 6, 3, 0, 0, 0) := by decide +kernel
theorem op132_29 : rn_op 132 29 = some (.bipush (-2), 2, 0, 0, 0) := by decide +kernel
theorem op132_31 : rn_op 132 31 = some (.ireturn, 1, 0, 0, 0) := by decide +kernel
theorem op132_32 : rn_op 132 32 = some (.iload_n 1, 1, 0, 0, 0) := by decide +kernel
theorem op132_33 : rn_op 132 33 = some (.aload_n 0, 1, 0, 0, 0) := by decide +kernel
theorem op132_34 : rn_op 132 34 = some (.getfield 19, 3, 10, 1, 3) := by decide +kernel
theorem op132_37 : rn_op 132 37 = some (.getfield 62, 3, 6, 0, 3) := by decide +kernel
theorem op132_40 : rn_op 132 40 = some (.getfield 118, 3, 1, 1, 0) := by decide +kernel
theorem op132_43 : rn_op 132 43 = some (.if_icmp .ge 17, 3, 0, 0, 0) := by decide +kernel
theorem op132_46 : rn_op 132 46 = some (.iload_n 2, 1, 0, 0, 0) := by decide +kernel
theorem op132_47 : rn_op 132 47 = some (.aload_n 0, 1, 0, 0, 0) := by decide +kernel
theorem op132_48 : rn_op 132 48 = some (.getfield 19, 3, 10, 1, 3) := by decide +kernel
theorem op132_51 : rn_op 132 51 = some (.getfield 62, 3, 6, 0, 3) := by decide +kernel
theorem op132_54 : rn_op 132 54 = some (.getfield 201, 3, 1, 2, 0) := by decide +kernel
theorem op132_57 : rn_op 132 57 = some (.if_icmp .lt 5, 3, 0, 0, 0) := by decide +kernel
theorem op132_60 : rn_op 132 60 = some (.iconst (-1), 1, 0, 0, 0) := by decide +kernel
theorem op132_61 : rn_op 132 61 = some (.ireturn, 1, 0, 0, 0) := by decide +kernel
theorem op132_62 : rn_op 132 62 = some (.aload_n 0, 1, 0, 0, 0) := by decide +kernel
theorem op132_63 : rn_op 132 63 = some (.getfield 39, 3, 10, 5, 3) := by decide +kernel
theorem op132_66 : rn_op 132 66 = some (.aload_n 0, 1, 0, 0, 0) := by decide +kernel
theorem op132_67 : rn_op 132 67 = some (.getfield 19, 3, 10, 1, 3) := by decide +kernel
theorem op132_70 : rn_op 132 70 = some (.getfield 62, 3, 6, 0, 3) := by decide +kernel
theorem op132_73 : rn_op 132 73 = some (.aload_n 0, 1, 0, 0, 0) := by decide +kernel
theorem op132_74 : rn_op 132 74 = some (.getfield 19, 3, 10, 1, 3) := by decide +kernel
theorem op132_77 : rn_op 132 77 = some (.getfield 125, 3, 6, 3, 3) := by decide +kernel
theorem op132_80 : rn_op 132 80 = some (.iload_n 1, 1, 0, 0, 0) := by decide +kernel
theorem op132_81 : rn_op 132 81 = some (.iload_n 2, 1, 0, 0, 0) := by decide +kernel
theorem op132_82 : rn_op 132 82 = some (.invokevirtual 294, 3, 133, 5, 2) := by decide +kernel
theorem op132_85 : rn_op 132 85 = some (.ireturn, 1, 0, 0, 0) := by decide +kernel
def lt_knows (n : Nat) (a1 : Int32) (a2 : Int32) (m : rn_Mem) : Option (Int32 × rn_Mem) :=
  (lt_isNoChair n a1 m).bind fun (r2, m1) =>
  if r2 = 0 then
    (lt_isNoTrick n a2 m1).bind fun (r6, m5) =>
    if r6 = 0 then
      if (m5.1 14 0) = 0 then
        some ((-2), m5)
      else
        if a1 < (m5.1 4 1) then
          if a2 < (m5.1 4 2) then
            (ju_thinkable n 4 14 a1 a2 m5).bind fun (r13, m12) =>
            some (r13, m12)
          else
            some ((-1), m5)
        else
          some ((-1), m5)
    else
      some ((-1), m5)
  else
    some ((-1), m1)
set_option maxHeartbeats 4000000 in
set_option maxRecDepth 20000 in
theorem lt_knows_ok (xs : List Int32) {d : Nat} (hd : 20 ≤ d) {n : Nat} {a1 : Int32} {a2 : Int32} {m mO : rn_Mem} {rO : Int32} (h : lt_knows n a1 a2 m = some (rO, mO)) : rn_R xs d 132 0 (rn_ent 3 [.ref 0, .int a1, .int a2]) [] (rn_SH, m) (some (.int rO)) (rn_SH, mO) := by
  obtain ⟨d, rfl⟩ : ∃ e, d = e + 1 := ⟨d - 1, by omega⟩
  unfold lt_knows at h
  show rn_R xs (d + 1) 132 0 [some (.ref 0), some (.int a1), some (.int a2)] [] (rn_SH, m) (some (.int rO)) (rn_SH, mO)
  refine rx_p (L2 := [some (.ref 0), some (.int a1), some (.int a2)]) (S2 := [.int a1]) (pc2 := 1) op132_0 rfl rfl ?_
  obtain ⟨⟨r2, m1⟩, f3, h⟩ := rq_bind h
  try dsimp only at h
  refine ry_is (vs := [.int a1]) (T := []) (pc2 := 4) op132_1 (by decide) ms_39 (by decide) rfl rfl (Nat.le_of_ble_eq_true rfl) (Nat.le_of_ble_eq_true rfl) (lt_isNoChair_ok xs (by omega)  f3) rfl ?_
  show rn_R _ _ _ _ _ [.int r2] _ _ _
  refine ry_if_ne (tgt := 14) (pc2 := 7) op132_4 (by decide) (by decide) rfl (fun b4 => ?_) (fun b4 => ?_)
  · have h := (if_pos b4).symm.trans h
    refine rx_p (L2 := [some (.ref 0), some (.int a1), some (.int a2)]) (S2 := [.int a2]) (pc2 := 8) op132_7 rfl rfl ?_
    obtain ⟨⟨r6, m5⟩, f7, h⟩ := rq_bind h
    try dsimp only at h
    refine ry_is (vs := [.int a2]) (T := []) (pc2 := 11) op132_8 (by decide) ms_96 (by decide) rfl rfl (Nat.le_of_ble_eq_true rfl) (Nat.le_of_ble_eq_true rfl) (lt_isNoTrick_ok xs (by omega)  f7) rfl ?_
    show rn_R _ _ _ _ _ [.int r6] _ _ _
    refine ry_if_eq (tgt := 16) (pc2 := 14) op132_11 (by decide) (by decide) rfl (fun b8 => ?_) (fun b8 => ?_)
    · have h := (if_pos b8).symm.trans h
      refine rx_p (L2 := [some (.ref 0), some (.int a1), some (.int a2)]) (S2 := [.ref 0]) (pc2 := 17) op132_16 rfl rfl ?_
      refine rx_gf (v := .ref 3) (pc2 := 20) op132_17 sp_0 rfl rfl rfl ?_
      refine rx_gf (v := .ref 14) (pc2 := 23) op132_20 sp_3 rfl rfl rfl ?_
      refine rx_gf (v := .int (m5.1 14 0)) (pc2 := 26) op132_23 sp_14 rfl rfl rfl ?_
      refine ry_if_ne (tgt := 32) (pc2 := 29) op132_26 (by decide) (by decide) rfl (fun b9 => ?_) (fun b9 => ?_)
      · have h := (if_pos b9).symm.trans h
        refine rx_bp (v := (-2)) (pc2 := 31) op132_29 (by decide) rfl ?_
        obtain ⟨rfl, rfl⟩ := rq_ret h
        exact ry_ri op132_31 ms_132 rfl
      · have h := (if_neg b9).symm.trans h
        refine rx_p (L2 := [some (.ref 0), some (.int a1), some (.int a2)]) (S2 := [.int a1]) (pc2 := 33) op132_32 rfl rfl ?_
        refine rx_p (L2 := [some (.ref 0), some (.int a1), some (.int a2)]) (S2 := [.ref 0, .int a1]) (pc2 := 34) op132_33 rfl rfl ?_
        refine rx_gf (v := .ref 3) (pc2 := 37) op132_34 sp_0 rfl rfl rfl ?_
        refine rx_gf (v := .ref 4) (pc2 := 40) op132_37 sp_3 rfl rfl rfl ?_
        refine rx_gf (v := .int (m5.1 4 1)) (pc2 := 43) op132_40 sp_4 rfl rfl rfl ?_
        refine ry_ic_ge (tgt := 60) (pc2 := 46) op132_43 (by decide) (by decide) rfl (fun b10 => ?_) (fun b10 => ?_)
        · have h := (if_pos b10).symm.trans h
          refine rx_p (L2 := [some (.ref 0), some (.int a1), some (.int a2)]) (S2 := [.int a2]) (pc2 := 47) op132_46 rfl rfl ?_
          refine rx_p (L2 := [some (.ref 0), some (.int a1), some (.int a2)]) (S2 := [.ref 0, .int a2]) (pc2 := 48) op132_47 rfl rfl ?_
          refine rx_gf (v := .ref 3) (pc2 := 51) op132_48 sp_0 rfl rfl rfl ?_
          refine rx_gf (v := .ref 4) (pc2 := 54) op132_51 sp_3 rfl rfl rfl ?_
          refine rx_gf (v := .int (m5.1 4 2)) (pc2 := 57) op132_54 sp_4 rfl rfl rfl ?_
          refine ry_ic_lt (tgt := 62) (pc2 := 60) op132_57 (by decide) (by decide) rfl (fun b11 => ?_) (fun b11 => ?_)
          · have h := (if_pos b11).symm.trans h
            refine rx_p (L2 := [some (.ref 0), some (.int a1), some (.int a2)]) (S2 := [.ref 0]) (pc2 := 63) op132_62 rfl rfl ?_
            refine rx_gf (v := .ref 102) (pc2 := 66) op132_63 sp_0 rfl rfl rfl ?_
            refine rx_p (L2 := [some (.ref 0), some (.int a1), some (.int a2)]) (S2 := [.ref 0, .ref 102]) (pc2 := 67) op132_66 rfl rfl ?_
            refine rx_gf (v := .ref 3) (pc2 := 70) op132_67 sp_0 rfl rfl rfl ?_
            refine rx_gf (v := .ref 4) (pc2 := 73) op132_70 sp_3 rfl rfl rfl ?_
            refine rx_p (L2 := [some (.ref 0), some (.int a1), some (.int a2)]) (S2 := [.ref 0, .ref 4, .ref 102]) (pc2 := 74) op132_73 rfl rfl ?_
            refine rx_gf (v := .ref 3) (pc2 := 77) op132_74 sp_0 rfl rfl rfl ?_
            refine rx_gf (v := .ref 14) (pc2 := 80) op132_77 sp_3 rfl rfl rfl ?_
            refine rx_p (L2 := [some (.ref 0), some (.int a1), some (.int a2)]) (S2 := [.int a1, .ref 14, .ref 4, .ref 102]) (pc2 := 81) op132_80 rfl rfl ?_
            refine rx_p (L2 := [some (.ref 0), some (.int a1), some (.int a2)]) (S2 := [.int a2, .int a1, .ref 14, .ref 4, .ref 102]) (pc2 := 82) op132_81 rfl rfl ?_
            obtain ⟨⟨r13, m12⟩, f14, h⟩ := rq_bind h
            try dsimp only at h
            refine ry_iv (p := 102) (vs := [.ref 4, .ref 14, .int a1, .int a2]) (T := []) (pc2 := 85) op132_82 ms_133 (by decide) rfl rfl (Nat.le_of_ble_eq_true rfl) (Nat.le_of_ble_eq_true rfl) sp_102 (ju_thinkable_ok xs (by omega) sa_4 sa_14 f14) rfl ?_
            show rn_R _ _ _ _ _ [.int r13] _ _ _
            obtain ⟨rfl, rfl⟩ := rq_ret h
            exact ry_ri op132_85 ms_132 rfl
          · have h := (if_neg b11).symm.trans h
            refine rx_ic (v := (-1)) (pc2 := 61) op132_60 (by decide) rfl ?_
            obtain ⟨rfl, rfl⟩ := rq_ret h
            exact ry_ri op132_61 ms_132 rfl
        · have h := (if_neg b10).symm.trans h
          refine rx_ic (v := (-1)) (pc2 := 61) op132_60 (by decide) rfl ?_
          obtain ⟨rfl, rfl⟩ := rq_ret h
          exact ry_ri op132_61 ms_132 rfl
    · have h := (if_neg b8).symm.trans h
      refine rx_ic (v := (-1)) (pc2 := 15) op132_14 (by decide) rfl ?_
      obtain ⟨rfl, rfl⟩ := rq_ret h
      exact ry_ri op132_15 ms_132 rfl
  · have h := (if_neg b4).symm.trans h
    refine rx_ic (v := (-1)) (pc2 := 15) op132_14 (by decide) rfl ?_
    obtain ⟨rfl, rfl⟩ := rq_ret h
    exact ry_ri op132_15 ms_132 rfl
/-! lt_count -/
theorem op136_0 : rn_op 136 0 = some (.iload_n 1, 1, 0, 0, 0) := by decide +kernel
theorem op136_1 : rn_op 136 1 = some (.tableswitch 112 0 2 #[27, 38, 66], 27, 0, 0, 0) := by decide +kernel
theorem op136_28 : rn_op 136 28 = some (.aload_n 0, 1, 0, 0, 0) := by decide +kernel
theorem op136_29 : rn_op 136 29 = some (.getfield 19, 3, 10, 1, 3) := by decide +kernel
theorem op136_32 : rn_op 136 32 = some (.getfield 168, 3, 6, 2, 3) := by decide +kernel
theorem op136_35 : rn_op 136 35 = some (.getfield 172, 3, 0, 0, 0) := by decide +kernel
theorem op136_38 : rn_op 136 38 = some (.ireturn, 1, 0, 0, 0) := by decide +kernel
theorem op136_39 : rn_op 136 39 = some (.aload_n 0, 1, 0, 0, 0) := by decide +kernel
theorem op136_40 : rn_op 136 40 = some (.getfield 19, 3, 10, 1, 3) := by decide +kernel
theorem op136_43 : rn_op 136 43 = some (.getfield 93, 3, 6, 1, 3) := by decide +kernel
theorem op136_46 : rn_op 136 46 = some (.getfield 136, 3, 7, 0, 2) := by decide +kernel
theorem op136_49 : rn_op 136 49 = some (.ifCond .eq 16, 3, 0, 0, 0) := by decide +kernel
theorem op136_52 : rn_op 136 52 = some (.aload_n 0, 1, 0, 0, 0) := by decide +kernel
theorem op136_53 : rn_op 136 53 = some (.getfield 19, 3, 10, 1, 3) := by decide +kernel
theorem op136_56 : rn_op 136 56 = some (.getfield 93, 3, 6, 1, 3) := by decide +kernel
theorem op136_59 : rn_op 136 59 = some (.getfield 107, 3, 7, 6, 0) := by decide +kernel
theorem op136_62 : rn_op 136 62 = some (.goto 4, 3, 0, 0, 0) := by decide +kernel
theorem op136_65 : rn_op 136 65 = some (.iconst 0, 1, 0, 0, 0) := by decide +kernel
theorem op136_66 : rn_op 136 66 = some (.ireturn, 1, 0, 0, 0) := by decide +kernel
theorem op136_67 : rn_op 136 67 = some (.aload_n 0, 1, 0, 0, 0) := by decide +kernel
theorem op136_68 : rn_op 136 68 = some (.getfield 19, 3, 10, 1, 3) := by decide +kernel
theorem op136_71 : rn_op 136 71 = some (.getfield 125, 3, 6, 3, 3) := by decide +kernel
theorem op136_74 : rn_op 136 74 = some (.getfield 129, 3, 3, 0, 2) := by decide +kernel
theorem op136_77 : rn_op 136 77 = some (.ifCond .eq 33, 3, 0, 0, 0) := by decide +kernel
theorem op136_80 : rn_op 136 80 = some (.aload_n 0, 1, 0, 0, 0) := by decide +kernel
theorem op136_81 : rn_op 136 81 = some (.getfield 19, 3, 10, 1, 3) := by decide +kernel
theorem op136_84 : rn_op 136 84 = some (.getfield 125, 3, 6, 3, 3) := by decide +kernel
theorem op136_87 : rn_op 136 87 = some (.aload_n 0, 1, 0, 0, 0) := by decide +kernel
theorem op136_88 : rn_op 136 88 = some (.getfield 19, 3, 10, 1, 3) := by decide +kernel
theorem op136_91 : rn_op 136 91 = some (.getfield 62, 3, 6, 0, 3) := by decide +kernel
theorem op136_94 : rn_op 136 94 = some (.aload_n 0, 1, 0, 0, 0) := by decide +kernel
theorem op136_95 : rn_op 136 95 = some (.getfield 19, 3, 10, 1, 3) := by decide +kernel
theorem op136_98 : rn_op 136 98 = some (.getfield 62, 3, 6, 0, 3) := by decide +kernel
theorem op136_101 : rn_op 136 101 = some (.invokevirtual 84, 3, 23, 1, 1) := by decide +kernel
theorem op136_104 : rn_op 136 104 = some (.invokevirtual 290, 3, 131, 3, 3) := by decide +kernel
theorem op136_107 : rn_op 136 107 = some (.goto 5, 3, 0, 0, 0) := by decide +kernel
theorem op136_110 : rn_op 136 110 = some (.bipush (-4), 2, 0, 0, 0) := by decide +kernel
theorem op136_112 : rn_op 136 112 = some (.ireturn, 1, 0, 0, 0) := by decide +kernel
theorem op136_113 : rn_op 136 113 = some (.iconst (-1), 1, 0, 0, 0) := by decide +kernel
theorem op136_114 : rn_op 136 114 = some (.ireturn, 1, 0, 0, 0) := by decide +kernel
def lt_count (n : Nat) (a1 : Int32) (m : rn_Mem) : Option (Int32 × rn_Mem) :=
  if a1 = 0 then
    some (m.1 9 0, m)
  else if a1 = 1 then
    if (m.1 5 0) = 0 then
      some (0, m)
    else
      some (m.1 5 6, m)
  else if a1 = 2 then
    if (m.1 14 0) = 0 then
      some ((-4), m)
    else
      (ga_cards n 4 m).bind fun (r15, m14) =>
      (ro_wonAhead n 14 4 r15 m14).bind fun (r18, m17) =>
      some (r18, m17)
  else 
    some ((-1), m)
set_option maxHeartbeats 4000000 in
set_option maxRecDepth 20000 in
theorem lt_count_ok (xs : List Int32) {d : Nat} (hd : 1 ≤ d) {n : Nat} {a1 : Int32} {m mO : rn_Mem} {rO : Int32} (h : lt_count n a1 m = some (rO, mO)) : rn_R xs d 136 0 (rn_ent 2 [.ref 0, .int a1]) [] (rn_SH, m) (some (.int rO)) (rn_SH, mO) := by
  obtain ⟨d, rfl⟩ : ∃ e, d = e + 1 := ⟨d - 1, by omega⟩
  unfold lt_count at h
  show rn_R xs (d + 1) 136 0 [some (.ref 0), some (.int a1)] [] (rn_SH, m) (some (.int rO)) (rn_SH, mO)
  refine rx_p (L2 := [some (.ref 0), some (.int a1)]) (S2 := [.int a1]) (pc2 := 1) op136_0 rfl rfl ?_
  by_cases b1 : a1 = 0
  · have h := (if_pos b1).symm.trans h
    refine ry_ti (w := 0) (off := 27) (tgt := 28) op136_1 (by rw [b1] <;> decide) (by decide) (by decide) (by decide) (by decide) ?_
    refine rx_p (L2 := [some (.ref 0), some (.int a1)]) (S2 := [.ref 0]) (pc2 := 29) op136_28 rfl rfl ?_
    refine rx_gf (v := .ref 3) (pc2 := 32) op136_29 sp_0 rfl rfl rfl ?_
    refine rx_gf (v := .ref 9) (pc2 := 35) op136_32 sp_3 rfl rfl rfl ?_
    refine rx_gf (v := .int (m.1 9 0)) (pc2 := 38) op136_35 sp_9 rfl rfl rfl ?_
    obtain ⟨rfl, rfl⟩ := rq_ret h
    exact ry_ri op136_38 ms_136 rfl
  have h := (if_neg b1).symm.trans h
  by_cases b2 : a1 = 1
  · have h := (if_pos b2).symm.trans h
    refine ry_ti (w := 1) (off := 38) (tgt := 39) op136_1 (by rw [b2] <;> decide) (by decide) (by decide) (by decide) (by decide) ?_
    refine rx_p (L2 := [some (.ref 0), some (.int a1)]) (S2 := [.ref 0]) (pc2 := 40) op136_39 rfl rfl ?_
    refine rx_gf (v := .ref 3) (pc2 := 43) op136_40 sp_0 rfl rfl rfl ?_
    refine rx_gf (v := .ref 5) (pc2 := 46) op136_43 sp_3 rfl rfl rfl ?_
    refine rx_gf (v := .int (m.1 5 0)) (pc2 := 49) op136_46 sp_5 rfl rfl rfl ?_
    refine ry_if_eq (tgt := 65) (pc2 := 52) op136_49 (by decide) (by decide) rfl (fun b12 => ?_) (fun b12 => ?_)
    · have h := (if_pos b12).symm.trans h
      refine rx_ic (v := 0) (pc2 := 66) op136_65 (by decide) rfl ?_
      obtain ⟨rfl, rfl⟩ := rq_ret h
      exact ry_ri op136_66 ms_136 rfl
    · have h := (if_neg b12).symm.trans h
      refine rx_p (L2 := [some (.ref 0), some (.int a1)]) (S2 := [.ref 0]) (pc2 := 53) op136_52 rfl rfl ?_
      refine rx_gf (v := .ref 3) (pc2 := 56) op136_53 sp_0 rfl rfl rfl ?_
      refine rx_gf (v := .ref 5) (pc2 := 59) op136_56 sp_3 rfl rfl rfl ?_
      refine rx_gf (v := .int (m.1 5 6)) (pc2 := 62) op136_59 sp_5 rfl rfl rfl ?_
      refine ry_go (tgt := 66) op136_62 (by decide) (by decide) ?_
      obtain ⟨rfl, rfl⟩ := rq_ret h
      exact ry_ri op136_66 ms_136 rfl
  have h := (if_neg b2).symm.trans h
  by_cases b3 : a1 = 2
  · have h := (if_pos b3).symm.trans h
    refine ry_ti (w := 2) (off := 66) (tgt := 67) op136_1 (by rw [b3] <;> decide) (by decide) (by decide) (by decide) (by decide) ?_
    refine rx_p (L2 := [some (.ref 0), some (.int a1)]) (S2 := [.ref 0]) (pc2 := 68) op136_67 rfl rfl ?_
    refine rx_gf (v := .ref 3) (pc2 := 71) op136_68 sp_0 rfl rfl rfl ?_
    refine rx_gf (v := .ref 14) (pc2 := 74) op136_71 sp_3 rfl rfl rfl ?_
    refine rx_gf (v := .int (m.1 14 0)) (pc2 := 77) op136_74 sp_14 rfl rfl rfl ?_
    refine ry_if_eq (tgt := 110) (pc2 := 80) op136_77 (by decide) (by decide) rfl (fun b13 => ?_) (fun b13 => ?_)
    · have h := (if_pos b13).symm.trans h
      refine rx_bp (v := (-4)) (pc2 := 112) op136_110 (by decide) rfl ?_
      obtain ⟨rfl, rfl⟩ := rq_ret h
      exact ry_ri op136_112 ms_136 rfl
    · have h := (if_neg b13).symm.trans h
      refine rx_p (L2 := [some (.ref 0), some (.int a1)]) (S2 := [.ref 0]) (pc2 := 81) op136_80 rfl rfl ?_
      refine rx_gf (v := .ref 3) (pc2 := 84) op136_81 sp_0 rfl rfl rfl ?_
      refine rx_gf (v := .ref 14) (pc2 := 87) op136_84 sp_3 rfl rfl rfl ?_
      refine rx_p (L2 := [some (.ref 0), some (.int a1)]) (S2 := [.ref 0, .ref 14]) (pc2 := 88) op136_87 rfl rfl ?_
      refine rx_gf (v := .ref 3) (pc2 := 91) op136_88 sp_0 rfl rfl rfl ?_
      refine rx_gf (v := .ref 4) (pc2 := 94) op136_91 sp_3 rfl rfl rfl ?_
      refine rx_p (L2 := [some (.ref 0), some (.int a1)]) (S2 := [.ref 0, .ref 4, .ref 14]) (pc2 := 95) op136_94 rfl rfl ?_
      refine rx_gf (v := .ref 3) (pc2 := 98) op136_95 sp_0 rfl rfl rfl ?_
      refine rx_gf (v := .ref 4) (pc2 := 101) op136_98 sp_3 rfl rfl rfl ?_
      obtain ⟨⟨r15, m14⟩, f16, h⟩ := rq_bind h
      try dsimp only at h
      refine ry_iv (p := 4) (vs := []) (T := [.ref 4, .ref 14]) (pc2 := 104) op136_101 ms_23 (by decide) rfl rfl (Nat.le_of_ble_eq_true rfl) (Nat.le_of_ble_eq_true rfl) sp_4 (ga_cards_ok xs (by omega) sa_4 f16) rfl ?_
      show rn_R _ _ _ _ _ [.int r15, .ref 4, .ref 14] _ _ _
      obtain ⟨⟨r18, m17⟩, f19, h⟩ := rq_bind h
      try dsimp only at h
      refine ry_iv (p := 14) (vs := [.ref 4, .int r15]) (T := []) (pc2 := 107) op136_104 ms_131 (by decide) rfl rfl (Nat.le_of_ble_eq_true rfl) (Nat.le_of_ble_eq_true rfl) sp_14 (ro_wonAhead_ok xs (by omega) sa_14 sa_4 f19) rfl ?_
      show rn_R _ _ _ _ _ [.int r18] _ _ _
      refine ry_go (tgt := 112) op136_107 (by decide) (by decide) ?_
      obtain ⟨rfl, rfl⟩ := rq_ret h
      exact ry_ri op136_112 ms_136 rfl
  have h := (if_neg b3).symm.trans h
  have tb1 := rq_nt 0 (by decide) b1
  have tb2 := rq_nt 1 (by decide) b2
  have tb3 := rq_nt 2 (by decide) b3
  refine ry_to (tgt := 113) op136_1 (by omega) (by decide) (by decide) ?_
  refine rx_ic (v := (-1)) (pc2 := 114) op136_113 (by decide) rfl ?_
  obtain ⟨rfl, rfl⟩ := rq_ret h
  exact ry_ri op136_114 ms_136 rfl
/-! st_copy -/
theorem op138_0 : rn_op 138 0 = some (.aload_n 0, 1, 0, 0, 0) := by decide +kernel
theorem op138_1 : rn_op 138 1 = some (.getfield 10, 3, 6, 0, 3) := by decide +kernel
theorem op138_4 : rn_op 138 4 = some (.aload_n 1, 1, 0, 0, 0) := by decide +kernel
theorem op138_5 : rn_op 138 5 = some (.getfield 10, 3, 6, 0, 3) := by decide +kernel
theorem op138_8 : rn_op 138 8 = some (.invokevirtual 37, 3, 33, 2, 1) := by decide +kernel
theorem op138_11 : rn_op 138 11 = some (.aload_n 0, 1, 0, 0, 0) := by decide +kernel
theorem op138_12 : rn_op 138 12 = some (.getfield 19, 3, 6, 1, 3) := by decide +kernel
theorem op138_15 : rn_op 138 15 = some (.aload_n 1, 1, 0, 0, 0) := by decide +kernel
theorem op138_16 : rn_op 138 16 = some (.getfield 19, 3, 6, 1, 3) := by decide +kernel
theorem op138_19 : rn_op 138 19 = some (.invokevirtual 50, 3, 41, 2, 7) := by decide +kernel
theorem op138_22 : rn_op 138 22 = some (.aload_n 0, 1, 0, 0, 0) := by decide +kernel
theorem op138_23 : rn_op 138 23 = some (.getfield 26, 3, 6, 2, 3) := by decide +kernel
theorem op138_26 : rn_op 138 26 = some (.aload_n 1, 1, 0, 0, 0) := by decide +kernel
theorem op138_27 : rn_op 138 27 = some (.getfield 26, 3, 6, 2, 3) := by decide +kernel
theorem op138_30 : rn_op 138 30 = some (.invokevirtual 53, 3, 62, 2, 0) := by decide +kernel
theorem op138_33 : rn_op 138 33 = some (.aload_n 0, 1, 0, 0, 0) := by decide +kernel
theorem op138_34 : rn_op 138 34 = some (.getfield 33, 3, 6, 3, 3) := by decide +kernel
theorem op138_37 : rn_op 138 37 = some (.aload_n 1, 1, 0, 0, 0) := by decide +kernel
theorem op138_38 : rn_op 138 38 = some (.getfield 33, 3, 6, 3, 3) := by decide +kernel
theorem op138_41 : rn_op 138 41 = some (.invokevirtual 56, 3, 120, 2, 3) := by decide +kernel
theorem op138_44 : rn_op 138 44 = some (.return_, 1, 0, 0, 0) := by decide +kernel
def st_copy (n : Nat) (q0 : Nat) (q1 : Nat) (m : rn_Mem) : Option (rn_Mem) :=
  (ga_copy n (q0 + 1) (q1 + 1) m).bind fun m1 =>
  (ta_copy n (q0 + 2) (q1 + 2) m1).bind fun m3 =>
  (cl_copy n (q0 + 6) (q1 + 6) m3).bind fun m5 =>
  (ro_copy n (q0 + 11) (q1 + 11) m5).bind fun m7 =>
  some m7
set_option maxHeartbeats 4000000 in
set_option maxRecDepth 20000 in
theorem st_copy_ok (xs : List Int32) {d : Nat} (hd : 1 ≤ d) {n : Nat} {q0 : Nat} {q1 : Nat} {m mO : rn_Mem} (hq0 : sA_State q0) (hq1 : sA_State q1) (h : st_copy n q0 q1 m = some mO) : rn_R xs d 138 0 (rn_ent 2 [.ref q0, .ref q1]) [] (rn_SH, m) none (rn_SH, mO) := by
  obtain ⟨d, rfl⟩ : ∃ e, d = e + 1 := ⟨d - 1, by omega⟩
  unfold st_copy at h
  show rn_R xs (d + 1) 138 0 [some (.ref q0), some (.ref q1)] [] (rn_SH, m) none (rn_SH, mO)
  refine rx_p (L2 := [some (.ref q0), some (.ref q1)]) (S2 := [.ref q0]) (pc2 := 1) op138_0 rfl rfl ?_
  refine rx_gf (v := .ref (q0 + 1)) (pc2 := 4) op138_1 (hq0.1) rfl rfl rfl ?_
  refine rx_p (L2 := [some (.ref q0), some (.ref q1)]) (S2 := [.ref q1, .ref (q0 + 1)]) (pc2 := 5) op138_4 rfl rfl ?_
  refine rx_gf (v := .ref (q1 + 1)) (pc2 := 8) op138_5 (hq1.1) rfl rfl rfl ?_
  obtain ⟨m1, f2, h⟩ := rq_bind h
  try dsimp only at h
  refine ry_iv (p := (q0 + 1)) (vs := [.ref (q1 + 1)]) (T := []) (pc2 := 11) op138_8 ms_33 (by decide) rfl rfl (Nat.le_of_ble_eq_true rfl) (Nat.le_of_ble_eq_true rfl) (hq0.2.1) (ga_copy_ok xs (by omega) (hq0.2.1) (hq1.2.1) f2) rfl ?_
  show rn_R _ _ _ _ _ [] _ _ _
  refine rx_p (L2 := [some (.ref q0), some (.ref q1)]) (S2 := [.ref q0]) (pc2 := 12) op138_11 rfl rfl ?_
  refine rx_gf (v := .ref (q0 + 2)) (pc2 := 15) op138_12 (hq0.1) rfl rfl rfl ?_
  refine rx_p (L2 := [some (.ref q0), some (.ref q1)]) (S2 := [.ref q1, .ref (q0 + 2)]) (pc2 := 16) op138_15 rfl rfl ?_
  refine rx_gf (v := .ref (q1 + 2)) (pc2 := 19) op138_16 (hq1.1) rfl rfl rfl ?_
  obtain ⟨m3, f4, h⟩ := rq_bind h
  try dsimp only at h
  refine ry_iv (p := (q0 + 2)) (vs := [.ref (q1 + 2)]) (T := []) (pc2 := 22) op138_19 ms_41 (by decide) rfl rfl (Nat.le_of_ble_eq_true rfl) (Nat.le_of_ble_eq_true rfl) (hq0.2.2.1.1) (ta_copy_ok xs (by omega) (hq0.2.2.1) (hq1.2.2.1) f4) rfl ?_
  show rn_R _ _ _ _ _ [] _ _ _
  refine rx_p (L2 := [some (.ref q0), some (.ref q1)]) (S2 := [.ref q0]) (pc2 := 23) op138_22 rfl rfl ?_
  refine rx_gf (v := .ref (q0 + 6)) (pc2 := 26) op138_23 (hq0.1) rfl rfl rfl ?_
  refine rx_p (L2 := [some (.ref q0), some (.ref q1)]) (S2 := [.ref q1, .ref (q0 + 6)]) (pc2 := 27) op138_26 rfl rfl ?_
  refine rx_gf (v := .ref (q1 + 6)) (pc2 := 30) op138_27 (hq1.1) rfl rfl rfl ?_
  obtain ⟨m5, f6, h⟩ := rq_bind h
  try dsimp only at h
  refine ry_iv (p := (q0 + 6)) (vs := [.ref (q1 + 6)]) (T := []) (pc2 := 33) op138_30 ms_62 (by decide) rfl rfl (Nat.le_of_ble_eq_true rfl) (Nat.le_of_ble_eq_true rfl) (hq0.2.2.2.1.1) (cl_copy_ok xs (by omega) (hq0.2.2.2.1) (hq1.2.2.2.1) f6) rfl ?_
  show rn_R _ _ _ _ _ [] _ _ _
  refine rx_p (L2 := [some (.ref q0), some (.ref q1)]) (S2 := [.ref q0]) (pc2 := 34) op138_33 rfl rfl ?_
  refine rx_gf (v := .ref (q0 + 11)) (pc2 := 37) op138_34 (hq0.1) rfl rfl rfl ?_
  refine rx_p (L2 := [some (.ref q0), some (.ref q1)]) (S2 := [.ref q1, .ref (q0 + 11)]) (pc2 := 38) op138_37 rfl rfl ?_
  refine rx_gf (v := .ref (q1 + 11)) (pc2 := 41) op138_38 (hq1.1) rfl rfl rfl ?_
  obtain ⟨m7, f8, h⟩ := rq_bind h
  try dsimp only at h
  refine ry_iv (p := (q0 + 11)) (vs := [.ref (q1 + 11)]) (T := []) (pc2 := 44) op138_41 ms_120 (by decide) rfl rfl (Nat.le_of_ble_eq_true rfl) (Nat.le_of_ble_eq_true rfl) (hq0.2.2.2.2.1) (ro_copy_ok xs (by omega) (hq0.2.2.2.2) (hq1.2.2.2.2) f8) rfl ?_
  show rn_R _ _ _ _ _ [] _ _ _
  obtain rfl := Option.some.inj h
  exact ry_rv op138_44 ms_138 rfl
/-! lt_image -/
theorem op137_0 : rn_op 137 0 = some (.aload_n 0, 1, 0, 0, 0) := by decide +kernel
theorem op137_1 : rn_op 137 1 = some (.getfield 23, 3, 10, 2, 3) := by decide +kernel
theorem op137_4 : rn_op 137 4 = some (.aload_n 0, 1, 0, 0, 0) := by decide +kernel
theorem op137_5 : rn_op 137 5 = some (.getfield 19, 3, 10, 1, 3) := by decide +kernel
theorem op137_8 : rn_op 137 8 = some (.invokevirtual 298, 3, 138, 2, 6) := by decide +kernel
theorem op137_11 : rn_op 137 11 = some (.aload_n 0, 1, 0, 0, 0) := by decide +kernel
theorem op137_12 : rn_op 137 12 = some (.iconst 1, 1, 0, 0, 0) := by decide +kernel
theorem op137_13 : rn_op 137 13 = some (.putfield 300, 3, 10, 7, 2) := by decide +kernel
theorem op137_16 : rn_op 137 16 = some (.iconst 1, 1, 0, 0, 0) := by decide +kernel
theorem op137_17 : rn_op 137 17 = some (.ireturn, 1, 0, 0, 0) := by decide +kernel
def lt_image (n : Nat)  (m : rn_Mem) : Option (Int32 × rn_Mem) :=
  (st_copy n 19 3 m).bind fun m1 =>
  (some (rm_i m1 0 7 1)).bind fun (m3 : rn_Mem) =>
  some (1, m3)
set_option maxHeartbeats 4000000 in
set_option maxRecDepth 20000 in
theorem lt_image_ok (xs : List Int32) {d : Nat} (hd : 2 ≤ d) {n : Nat} {m mO : rn_Mem} {rO : Int32} (h : lt_image n  m = some (rO, mO)) : rn_R xs d 137 0 (rn_ent 1 [.ref 0]) [] (rn_SH, m) (some (.int rO)) (rn_SH, mO) := by
  obtain ⟨d, rfl⟩ : ∃ e, d = e + 1 := ⟨d - 1, by omega⟩
  unfold lt_image at h
  show rn_R xs (d + 1) 137 0 [some (.ref 0)] [] (rn_SH, m) (some (.int rO)) (rn_SH, mO)
  refine rx_p (L2 := [some (.ref 0)]) (S2 := [.ref 0]) (pc2 := 1) op137_0 rfl rfl ?_
  refine rx_gf (v := .ref 19) (pc2 := 4) op137_1 sp_0 rfl rfl rfl ?_
  refine rx_p (L2 := [some (.ref 0)]) (S2 := [.ref 0, .ref 19]) (pc2 := 5) op137_4 rfl rfl ?_
  refine rx_gf (v := .ref 3) (pc2 := 8) op137_5 sp_0 rfl rfl rfl ?_
  obtain ⟨m1, f2, h⟩ := rq_bind h
  try dsimp only at h
  refine ry_iv (p := 19) (vs := [.ref 3]) (T := []) (pc2 := 11) op137_8 ms_138 (by decide) rfl rfl (Nat.le_of_ble_eq_true rfl) (Nat.le_of_ble_eq_true rfl) sp_19 (st_copy_ok xs (by omega) sa_19 sa_3 f2) rfl ?_
  show rn_R _ _ _ _ _ [] _ _ _
  refine rx_p (L2 := [some (.ref 0)]) (S2 := [.ref 0]) (pc2 := 12) op137_11 rfl rfl ?_
  refine rx_ic (v := 1) (pc2 := 13) op137_12 (by decide) rfl ?_
  obtain ⟨m3, em3, h⟩ := rq_bv h
  refine rx_pz (m2 := m3) (pc2 := 16) op137_13 sp_0 rfl (by decide) em3 rfl ?_
  refine rx_ic (v := 1) (pc2 := 17) op137_16 (by decide) rfl ?_
  obtain ⟨rfl, rfl⟩ := rq_ret h
  exact ry_ri op137_17 ms_137 rfl
/-! lt_restore -/
theorem op139_0 : rn_op 139 0 = some (.aload_n 0, 1, 0, 0, 0) := by decide +kernel
theorem op139_1 : rn_op 139 1 = some (.getfield 300, 3, 10, 7, 2) := by decide +kernel
theorem op139_4 : rn_op 139 4 = some (.ifCond .ne 6, 3, 0, 0, 0) := by decide +kernel
theorem op139_7 : rn_op 139 7 = some (.bipush (-4), 2, 0, 0, 0) := by decide +kernel
theorem op139_9 : rn_op 139 9 = some (.ireturn, 1, 0, 0, 0) := by decide +kernel
theorem op139_10 : rn_op 139 10 = some (.aload_n 0, 1, 0, 0, 0) := by decide +kernel
theorem op139_11 : rn_op 139 11 = some (.getfield 19, 3, 10, 1, 3) := by decide +kernel
theorem op139_14 : rn_op 139 14 = some (.aload_n 0, 1, 0, 0, 0) := by decide +kernel
theorem op139_15 : rn_op 139 15 = some (.getfield 23, 3, 10, 2, 3) := by decide +kernel
theorem op139_18 : rn_op 139 18 = some (.invokevirtual 298, 3, 138, 2, 6) := by decide +kernel
theorem op139_21 : rn_op 139 21 = some (.aload_n 0, 1, 0, 0, 0) := by decide +kernel
theorem op139_22 : rn_op 139 22 = some (.iconst 0, 1, 0, 0, 0) := by decide +kernel
theorem op139_23 : rn_op 139 23 = some (.putfield 81, 3, 10, 8, 0) := by decide +kernel
theorem op139_26 : rn_op 139 26 = some (.iconst 1, 1, 0, 0, 0) := by decide +kernel
theorem op139_27 : rn_op 139 27 = some (.ireturn, 1, 0, 0, 0) := by decide +kernel
def lt_restore (n : Nat)  (m : rn_Mem) : Option (Int32 × rn_Mem) :=
  if (m.1 0 7) = 0 then
    some ((-4), m)
  else
    (st_copy n 3 19 m).bind fun m2 =>
    (some (rm_i m2 0 8 0)).bind fun (m4 : rn_Mem) =>
    some (1, m4)
set_option maxHeartbeats 4000000 in
set_option maxRecDepth 20000 in
theorem lt_restore_ok (xs : List Int32) {d : Nat} (hd : 2 ≤ d) {n : Nat} {m mO : rn_Mem} {rO : Int32} (h : lt_restore n  m = some (rO, mO)) : rn_R xs d 139 0 (rn_ent 1 [.ref 0]) [] (rn_SH, m) (some (.int rO)) (rn_SH, mO) := by
  obtain ⟨d, rfl⟩ : ∃ e, d = e + 1 := ⟨d - 1, by omega⟩
  unfold lt_restore at h
  show rn_R xs (d + 1) 139 0 [some (.ref 0)] [] (rn_SH, m) (some (.int rO)) (rn_SH, mO)
  refine rx_p (L2 := [some (.ref 0)]) (S2 := [.ref 0]) (pc2 := 1) op139_0 rfl rfl ?_
  refine rx_gf (v := .int (m.1 0 7)) (pc2 := 4) op139_1 sp_0 rfl rfl rfl ?_
  refine ry_if_ne (tgt := 10) (pc2 := 7) op139_4 (by decide) (by decide) rfl (fun b1 => ?_) (fun b1 => ?_)
  · have h := (if_pos b1).symm.trans h
    refine rx_bp (v := (-4)) (pc2 := 9) op139_7 (by decide) rfl ?_
    obtain ⟨rfl, rfl⟩ := rq_ret h
    exact ry_ri op139_9 ms_139 rfl
  · have h := (if_neg b1).symm.trans h
    refine rx_p (L2 := [some (.ref 0)]) (S2 := [.ref 0]) (pc2 := 11) op139_10 rfl rfl ?_
    refine rx_gf (v := .ref 3) (pc2 := 14) op139_11 sp_0 rfl rfl rfl ?_
    refine rx_p (L2 := [some (.ref 0)]) (S2 := [.ref 0, .ref 3]) (pc2 := 15) op139_14 rfl rfl ?_
    refine rx_gf (v := .ref 19) (pc2 := 18) op139_15 sp_0 rfl rfl rfl ?_
    obtain ⟨m2, f3, h⟩ := rq_bind h
    try dsimp only at h
    refine ry_iv (p := 3) (vs := [.ref 19]) (T := []) (pc2 := 21) op139_18 ms_138 (by decide) rfl rfl (Nat.le_of_ble_eq_true rfl) (Nat.le_of_ble_eq_true rfl) sp_3 (st_copy_ok xs (by omega) sa_3 sa_19 f3) rfl ?_
    show rn_R _ _ _ _ _ [] _ _ _
    refine rx_p (L2 := [some (.ref 0)]) (S2 := [.ref 0]) (pc2 := 22) op139_21 rfl rfl ?_
    refine rx_ic (v := 0) (pc2 := 23) op139_22 (by decide) rfl ?_
    obtain ⟨m4, em4, h⟩ := rq_bv h
    refine rx_pf (m2 := m4) (pc2 := 26) op139_23 sp_0 rfl em4 rfl ?_
    refine rx_ic (v := 1) (pc2 := 27) op139_26 (by decide) rfl ?_
    obtain ⟨rfl, rfl⟩ := rq_ret h
    exact ry_ri op139_27 ms_139 rfl
/-! sh_rule -/
theorem op141_0 : rn_op 141 0 = some (.aload_n 0, 1, 0, 0, 0) := by decide +kernel
theorem op141_1 : rn_op 141 1 = some (.iconst 1, 1, 0, 0, 0) := by decide +kernel
theorem op141_2 : rn_op 141 2 = some (.putfield 15, 3, 5, 0, 2) := by decide +kernel
theorem op141_5 : rn_op 141 5 = some (.aload_n 0, 1, 0, 0, 0) := by decide +kernel
theorem op141_6 : rn_op 141 6 = some (.iload_n 1, 1, 0, 0, 0) := by decide +kernel
theorem op141_7 : rn_op 141 7 = some (.putfield 19, 3, 5, 1, 0) := by decide +kernel
theorem op141_10 : rn_op 141 10 = some (.aload_n 0, 1, 0, 0, 0) := by decide +kernel
theorem op141_11 : rn_op 141 11 = some (.iload_n 2, 1, 0, 0, 0) := by decide +kernel
theorem op141_12 : rn_op 141 12 = some (.putfield 23, 3, 5, 2, 0) := by decide +kernel
theorem op141_15 : rn_op 141 15 = some (.iconst 0, 1, 0, 0, 0) := by decide +kernel
theorem op141_16 : rn_op 141 16 = some (.istore_n 3, 1, 0, 0, 0) := by decide +kernel
theorem op141_17 : rn_op 141 17 = some (.iload_n 3, 1, 0, 0, 0) := by decide +kernel
theorem op141_18 : rn_op 141 18 = some (.bipush 24, 2, 0, 0, 0) := by decide +kernel
theorem op141_20 : rn_op 141 20 = some (.if_icmp .ge 16, 3, 0, 0, 0) := by decide +kernel
theorem op141_23 : rn_op 141 23 = some (.aload_n 0, 1, 0, 0, 0) := by decide +kernel
theorem op141_24 : rn_op 141 24 = some (.getfield 9, 3, 5, 3, 3) := by decide +kernel
theorem op141_27 : rn_op 141 27 = some (.iload_n 3, 1, 0, 0, 0) := by decide +kernel
theorem op141_28 : rn_op 141 28 = some (.iconst 0, 1, 0, 0, 0) := by decide +kernel
theorem op141_29 : rn_op 141 29 = some (.iastore, 1, 0, 0, 0) := by decide +kernel
theorem op141_30 : rn_op 141 30 = some (.iinc 3 1, 3, 0, 0, 0) := by decide +kernel
theorem op141_33 : rn_op 141 33 = some (.goto (-16), 3, 0, 0, 0) := by decide +kernel
theorem op141_36 : rn_op 141 36 = some (.return_, 1, 0, 0, 0) := by decide +kernel
def sh_rule_l17 (q0 : Nat) : Nat → Int32 → rn_Mem → Option (rn_Mem)
  | 0, _, _ => none
  | n + 1, a3, m =>
    if a3 < 24 then
      if rn_in a3 24 = true then
        (some (rm_i m (q0 + 1) a3.toNatClampNeg 0)).bind fun (m5 : rn_Mem) =>
        (some (a3 + 1)).bind fun (x7 : Int32) =>
        sh_rule_l17 q0 n x7 m5
      else none
    else
      some m
def sh_rule (n : Nat) (q0 : Nat) (a1 : Int32) (a2 : Int32) (m : rn_Mem) : Option (rn_Mem) :=
  (some (rm_i m q0 0 1)).bind fun (m1 : rn_Mem) =>
  (some (rm_i m1 q0 1 a1)).bind fun (m2 : rn_Mem) =>
  (some (rm_i m2 q0 2 a2)).bind fun (m3 : rn_Mem) =>
  (sh_rule_l17 q0 n 0 m3).bind fun m9 =>
  some m9
set_option maxHeartbeats 4000000 in
set_option maxRecDepth 20000 in
theorem sh_rule_l17_ok (xs : List Int32) {d : Nat} {q0 : Nat} {r : Option Value} {τ : rn_H} {out : rn_Mem} (hr : ∀ (mO : rn_Mem), out = mO → ∀ (o0 o1 o2 o3 : Option Value), rn_R xs d 141 36 [o0, o1, o2, o3] [] (rn_SH, mO) r τ) : ∀ (n : Nat) (a3 : Int32) (o1 o2 : Option Value) (m : rn_Mem), sA_Sheet q0 → sh_rule_l17 q0 n a3 m = some out → rn_R xs d 141 17 [some (.ref q0), o1, o2, some (.int a3)] [] (rn_SH, m) r τ := by
  intro n
  induction n with
  | zero =>
    intro _ _ _ _ _ h
    cases h
  | succ n ih =>
    intro a3 o1 o2 m hq0 h
    unfold sh_rule_l17 at h
    try dsimp only at h
    refine rx_p (L2 := [some (.ref q0), o1, o2, some (.int a3)]) (S2 := [.int a3]) (pc2 := 18) op141_17 rfl rfl ?_
    refine rx_bp (v := 24) (pc2 := 20) op141_18 (by decide) rfl ?_
    refine ry_ic_ge (tgt := 36) (pc2 := 23) op141_20 (by decide) (by decide) rfl (fun b4 => ?_) (fun b4 => ?_)
    · have h := (if_pos b4).symm.trans h
      refine rx_p (L2 := [some (.ref q0), o1, o2, some (.int a3)]) (S2 := [.ref q0]) (pc2 := 24) op141_23 rfl rfl ?_
      refine rx_gf (v := .ref (q0 + 1)) (pc2 := 27) op141_24 (hq0.1) rfl rfl rfl ?_
      refine rx_p (L2 := [some (.ref q0), o1, o2, some (.int a3)]) (S2 := [.int a3, .ref (q0 + 1)]) (pc2 := 28) op141_27 rfl rfl ?_
      refine rx_ic (v := 0) (pc2 := 29) op141_28 (by decide) rfl ?_
      obtain ⟨k6, h⟩ := rq_chk h
      obtain ⟨m5, em5, h⟩ := rq_bv h
      refine rx_is (m2 := m5) (pc2 := 30) op141_29 (hq0.2) k6 rfl em5 rfl ?_
      obtain ⟨x7, ex7, h⟩ := rq_bv h
      refine rx_incd (w := 1) (v := x7) (j := 2) (pc2 := 33) op141_30 rfl (by decide) ex7 rfl (fun o8 => ?_)
      show rn_R _ _ _ _ [some (.ref q0), o1, o8, some (.int x7)] _ _ _ _
      refine ry_go (tgt := 17) op141_33 (by decide) (by decide) ?_
      exact ih _ _ _ _ hq0 h
    · have h := (if_neg b4).symm.trans h
      cases h
      exact hr _ rfl _ _ _ _
set_option maxHeartbeats 4000000 in
set_option maxRecDepth 20000 in
theorem sh_rule_ok (xs : List Int32) {d : Nat} (hd : 0 ≤ d) {n : Nat} {q0 : Nat} {a1 : Int32} {a2 : Int32} {m mO : rn_Mem} (hq0 : sA_Sheet q0) (h : sh_rule n q0 a1 a2 m = some mO) : rn_R xs d 141 0 (rn_ent 4 [.ref q0, .int a1, .int a2]) [] (rn_SH, m) none (rn_SH, mO) := by
  unfold sh_rule at h
  show rn_R xs d 141 0 [some (.ref q0), some (.int a1), some (.int a2), none] [] (rn_SH, m) none (rn_SH, mO)
  refine rx_p (L2 := [some (.ref q0), some (.int a1), some (.int a2), none]) (S2 := [.ref q0]) (pc2 := 1) op141_0 rfl rfl ?_
  refine rx_ic (v := 1) (pc2 := 2) op141_1 (by decide) rfl ?_
  obtain ⟨m1, em1, h⟩ := rq_bv h
  refine rx_pz (m2 := m1) (pc2 := 5) op141_2 (hq0.1) rfl (by decide) em1 rfl ?_
  refine rx_p (L2 := [some (.ref q0), some (.int a1), some (.int a2), none]) (S2 := [.ref q0]) (pc2 := 6) op141_5 rfl rfl ?_
  refine rx_p (L2 := [some (.ref q0), some (.int a1), some (.int a2), none]) (S2 := [.int a1, .ref q0]) (pc2 := 7) op141_6 rfl rfl ?_
  obtain ⟨m2, em2, h⟩ := rq_bv h
  refine rx_pf (m2 := m2) (pc2 := 10) op141_7 (hq0.1) rfl em2 rfl ?_
  refine rx_p (L2 := [some (.ref q0), some (.int a1), some (.int a2), none]) (S2 := [.ref q0]) (pc2 := 11) op141_10 rfl rfl ?_
  refine rx_p (L2 := [some (.ref q0), some (.int a1), some (.int a2), none]) (S2 := [.int a2, .ref q0]) (pc2 := 12) op141_11 rfl rfl ?_
  obtain ⟨m3, em3, h⟩ := rq_bv h
  refine rx_pf (m2 := m3) (pc2 := 15) op141_12 (hq0.1) rfl em3 rfl ?_
  refine rx_ic (v := 0) (pc2 := 16) op141_15 (by decide) rfl ?_
  refine rx_s (L2 := [some (.ref q0), some (.int a1), some (.int a2), some (.int 0)]) (pc2 := 17) op141_16 rfl rfl rfl ?_
  obtain ⟨m9, f14, h⟩ := rq_bind h
  refine sh_rule_l17_ok xs (fun m0 eq => ?_) _ _ _ _ _ hq0 f14
  subst eq
  try dsimp only at h
  intro o10 o11 o12 o13
  obtain rfl := Option.some.inj h
  exact ry_rv op141_36 ms_141 rfl
/-! lt_sheet -/
theorem op140_0 : rn_op 140 0 = some (.iload_n 1, 1, 0, 0, 0) := by decide +kernel
theorem op140_1 : rn_op 140 1 = some (.invokestatic 246, 3, 109, 1, 0) := by decide +kernel
theorem op140_4 : rn_op 140 4 = some (.ifCond .ne 16, 3, 0, 0, 0) := by decide +kernel
theorem op140_7 : rn_op 140 7 = some (.iload_n 2, 1, 0, 0, 0) := by decide +kernel
theorem op140_8 : rn_op 140 8 = some (.invokestatic 249, 3, 110, 1, 0) := by decide +kernel
theorem op140_11 : rn_op 140 11 = some (.ifCond .ne 9, 3, 0, 0, 0) := by decide +kernel
theorem op140_14 : rn_op 140 14 = some (.iload_n 3, 1, 0, 0, 0) := by decide +kernel
theorem op140_15 : rn_op 140 15 = some (.bipush 24, 2, 0, 0, 0) := by decide +kernel
theorem op140_17 : rn_op 140 17 = some (.if_icmp .le 5, 3, 0, 0, 0) := by decide +kernel
theorem op140_20 : rn_op 140 20 = some (.iconst (-1), 1, 0, 0, 0) := by decide +kernel
theorem op140_21 : rn_op 140 21 = some (.ireturn, 1, 0, 0, 0) := by decide +kernel
theorem op140_22 : rn_op 140 22 = some (.iload_n 3, 1, 0, 0, 0) := by decide +kernel
theorem op140_23 : rn_op 140 23 = some (.ifCond .ge 6, 3, 0, 0, 0) := by decide +kernel
theorem op140_26 : rn_op 140 26 = some (.bipush (-14), 2, 0, 0, 0) := by decide +kernel
theorem op140_28 : rn_op 140 28 = some (.ireturn, 1, 0, 0, 0) := by decide +kernel
theorem op140_29 : rn_op 140 29 = some (.aload_n 0, 1, 0, 0, 0) := by decide +kernel
theorem op140_30 : rn_op 140 30 = some (.getfield 45, 3, 10, 6, 3) := by decide +kernel
theorem op140_33 : rn_op 140 33 = some (.iload_n 1, 1, 0, 0, 0) := by decide +kernel
theorem op140_34 : rn_op 140 34 = some (.aaload, 1, 0, 0, 0) := by decide +kernel
theorem op140_35 : rn_op 140 35 = some (.iload_n 2, 1, 0, 0, 0) := by decide +kernel
theorem op140_36 : rn_op 140 36 = some (.iload_n 3, 1, 0, 0, 0) := by decide +kernel
theorem op140_37 : rn_op 140 37 = some (.invokevirtual 303, 3, 141, 3, 5) := by decide +kernel
theorem op140_40 : rn_op 140 40 = some (.iload_n 3, 1, 0, 0, 0) := by decide +kernel
theorem op140_41 : rn_op 140 41 = some (.ireturn, 1, 0, 0, 0) := by decide +kernel
def lt_sheet (n : Nat) (a1 : Int32) (a2 : Int32) (a3 : Int32) (m : rn_Mem) : Option (Int32 × rn_Mem) :=
  (lt_isNoSheet n a1 m).bind fun (r2, m1) =>
  if r2 = 0 then
    (lt_isNoLane n a2 m1).bind fun (r6, m5) =>
    if r6 = 0 then
      if 24 < a3 then
        some ((-1), m5)
      else
        if a3 < 0 then
          some ((-14), m5)
        else
          if rn_in a1 4 = true then
            (sh_rule n (107 + 2 * a1.toNatClampNeg) a2 a3 m5).bind fun m12 =>
            some (a3, m12)
          else none
    else
      some ((-1), m5)
  else
    some ((-1), m1)
set_option maxHeartbeats 4000000 in
set_option maxRecDepth 20000 in
theorem lt_sheet_ok (xs : List Int32) {d : Nat} (hd : 1 ≤ d) {n : Nat} {a1 : Int32} {a2 : Int32} {a3 : Int32} {m mO : rn_Mem} {rO : Int32} (h : lt_sheet n a1 a2 a3 m = some (rO, mO)) : rn_R xs d 140 0 (rn_ent 4 [.ref 0, .int a1, .int a2, .int a3]) [] (rn_SH, m) (some (.int rO)) (rn_SH, mO) := by
  obtain ⟨d, rfl⟩ : ∃ e, d = e + 1 := ⟨d - 1, by omega⟩
  unfold lt_sheet at h
  show rn_R xs (d + 1) 140 0 [some (.ref 0), some (.int a1), some (.int a2), some (.int a3)] [] (rn_SH, m) (some (.int rO)) (rn_SH, mO)
  refine rx_p (L2 := [some (.ref 0), some (.int a1), some (.int a2), some (.int a3)]) (S2 := [.int a1]) (pc2 := 1) op140_0 rfl rfl ?_
  obtain ⟨⟨r2, m1⟩, f3, h⟩ := rq_bind h
  try dsimp only at h
  refine ry_is (vs := [.int a1]) (T := []) (pc2 := 4) op140_1 (by decide) ms_109 (by decide) rfl rfl (Nat.le_of_ble_eq_true rfl) (Nat.le_of_ble_eq_true rfl) (lt_isNoSheet_ok xs (by omega)  f3) rfl ?_
  show rn_R _ _ _ _ _ [.int r2] _ _ _
  refine ry_if_ne (tgt := 20) (pc2 := 7) op140_4 (by decide) (by decide) rfl (fun b4 => ?_) (fun b4 => ?_)
  · have h := (if_pos b4).symm.trans h
    refine rx_p (L2 := [some (.ref 0), some (.int a1), some (.int a2), some (.int a3)]) (S2 := [.int a2]) (pc2 := 8) op140_7 rfl rfl ?_
    obtain ⟨⟨r6, m5⟩, f7, h⟩ := rq_bind h
    try dsimp only at h
    refine ry_is (vs := [.int a2]) (T := []) (pc2 := 11) op140_8 (by decide) ms_110 (by decide) rfl rfl (Nat.le_of_ble_eq_true rfl) (Nat.le_of_ble_eq_true rfl) (lt_isNoLane_ok xs (by omega)  f7) rfl ?_
    show rn_R _ _ _ _ _ [.int r6] _ _ _
    refine ry_if_ne (tgt := 20) (pc2 := 14) op140_11 (by decide) (by decide) rfl (fun b8 => ?_) (fun b8 => ?_)
    · have h := (if_pos b8).symm.trans h
      refine rx_p (L2 := [some (.ref 0), some (.int a1), some (.int a2), some (.int a3)]) (S2 := [.int a3]) (pc2 := 15) op140_14 rfl rfl ?_
      refine rx_bp (v := 24) (pc2 := 17) op140_15 (by decide) rfl ?_
      refine ry_ic_le (tgt := 22) (pc2 := 20) op140_17 (by decide) (by decide) rfl (fun b9 => ?_) (fun b9 => ?_)
      · have h := (if_pos b9).symm.trans h
        refine rx_ic (v := (-1)) (pc2 := 21) op140_20 (by decide) rfl ?_
        obtain ⟨rfl, rfl⟩ := rq_ret h
        exact ry_ri op140_21 ms_140 rfl
      · have h := (if_neg b9).symm.trans h
        refine rx_p (L2 := [some (.ref 0), some (.int a1), some (.int a2), some (.int a3)]) (S2 := [.int a3]) (pc2 := 23) op140_22 rfl rfl ?_
        refine ry_if_ge (tgt := 29) (pc2 := 26) op140_23 (by decide) (by decide) rfl (fun b10 => ?_) (fun b10 => ?_)
        · have h := (if_pos b10).symm.trans h
          refine rx_bp (v := (-14)) (pc2 := 28) op140_26 (by decide) rfl ?_
          obtain ⟨rfl, rfl⟩ := rq_ret h
          exact ry_ri op140_28 ms_140 rfl
        · have h := (if_neg b10).symm.trans h
          refine rx_p (L2 := [some (.ref 0), some (.int a1), some (.int a2), some (.int a3)]) (S2 := [.ref 0]) (pc2 := 30) op140_29 rfl rfl ?_
          refine rx_gf (v := .ref 106) (pc2 := 33) op140_30 sp_0 rfl rfl rfl ?_
          refine rx_p (L2 := [some (.ref 0), some (.int a1), some (.int a2), some (.int a3)]) (S2 := [.int a1, .ref 106]) (pc2 := 34) op140_33 rfl rfl ?_
          obtain ⟨k11, h⟩ := rq_chk h
          refine rx_aa (q := (107 + 2 * a1.toNatClampNeg)) (pc2 := 35) op140_34 sp_106 (by decide) k11 (rn_sheets_at k11) rfl ?_
          refine rx_p (L2 := [some (.ref 0), some (.int a1), some (.int a2), some (.int a3)]) (S2 := [.int a2, .ref (107 + 2 * a1.toNatClampNeg)]) (pc2 := 36) op140_35 rfl rfl ?_
          refine rx_p (L2 := [some (.ref 0), some (.int a1), some (.int a2), some (.int a3)]) (S2 := [.int a3, .int a2, .ref (107 + 2 * a1.toNatClampNeg)]) (pc2 := 37) op140_36 rfl rfl ?_
          obtain ⟨m12, f13, h⟩ := rq_bind h
          try dsimp only at h
          refine ry_iv (p := (107 + 2 * a1.toNatClampNeg)) (vs := [.int a2, .int a3]) (T := []) (pc2 := 40) op140_37 ms_141 (by decide) rfl rfl (Nat.le_of_ble_eq_true rfl) (Nat.le_of_ble_eq_true rfl) ((rn_sheets_asm k11).1) (sh_rule_ok xs (by omega) (rn_sheets_asm k11) f13) rfl ?_
          show rn_R _ _ _ _ _ [] _ _ _
          refine rx_p (L2 := [some (.ref 0), some (.int a1), some (.int a2), some (.int a3)]) (S2 := [.int a3]) (pc2 := 41) op140_40 rfl rfl ?_
          obtain ⟨rfl, rfl⟩ := rq_ret h
          exact ry_ri op140_41 ms_140 rfl
    · have h := (if_neg b8).symm.trans h
      refine rx_ic (v := (-1)) (pc2 := 21) op140_20 (by decide) rfl ?_
      obtain ⟨rfl, rfl⟩ := rq_ret h
      exact ry_ri op140_21 ms_140 rfl
  · have h := (if_neg b4).symm.trans h
    refine rx_ic (v := (-1)) (pc2 := 21) op140_20 (by decide) rfl ?_
    obtain ⟨rfl, rfl⟩ := rq_ret h
    exact ry_ri op140_21 ms_140 rfl
/-! lt_drop -/
theorem op142_0 : rn_op 142 0 = some (.iload_n 1, 1, 0, 0, 0) := by decide +kernel
theorem op142_1 : rn_op 142 1 = some (.invokestatic 246, 3, 109, 1, 0) := by decide +kernel
theorem op142_4 : rn_op 142 4 = some (.ifCond .eq 5, 3, 0, 0, 0) := by decide +kernel
theorem op142_7 : rn_op 142 7 = some (.iconst (-1), 1, 0, 0, 0) := by decide +kernel
theorem op142_8 : rn_op 142 8 = some (.ireturn, 1, 0, 0, 0) := by decide +kernel
theorem op142_9 : rn_op 142 9 = some (.aload_n 0, 1, 0, 0, 0) := by decide +kernel
theorem op142_10 : rn_op 142 10 = some (.getfield 45, 3, 10, 6, 3) := by decide +kernel
theorem op142_13 : rn_op 142 13 = some (.iload_n 1, 1, 0, 0, 0) := by decide +kernel
theorem op142_14 : rn_op 142 14 = some (.aaload, 1, 0, 0, 0) := by decide +kernel
theorem op142_15 : rn_op 142 15 = some (.getfield 306, 3, 5, 0, 2) := by decide +kernel
theorem op142_18 : rn_op 142 18 = some (.ifCond .ne 6, 3, 0, 0, 0) := by decide +kernel
theorem op142_21 : rn_op 142 21 = some (.bipush (-11), 2, 0, 0, 0) := by decide +kernel
theorem op142_23 : rn_op 142 23 = some (.ireturn, 1, 0, 0, 0) := by decide +kernel
theorem op142_24 : rn_op 142 24 = some (.aload_n 0, 1, 0, 0, 0) := by decide +kernel
theorem op142_25 : rn_op 142 25 = some (.getfield 45, 3, 10, 6, 3) := by decide +kernel
theorem op142_28 : rn_op 142 28 = some (.iload_n 1, 1, 0, 0, 0) := by decide +kernel
theorem op142_29 : rn_op 142 29 = some (.aaload, 1, 0, 0, 0) := by decide +kernel
theorem op142_30 : rn_op 142 30 = some (.iconst 0, 1, 0, 0, 0) := by decide +kernel
theorem op142_31 : rn_op 142 31 = some (.putfield 306, 3, 5, 0, 2) := by decide +kernel
theorem op142_34 : rn_op 142 34 = some (.aload_n 0, 1, 0, 0, 0) := by decide +kernel
theorem op142_35 : rn_op 142 35 = some (.getfield 45, 3, 10, 6, 3) := by decide +kernel
theorem op142_38 : rn_op 142 38 = some (.iload_n 1, 1, 0, 0, 0) := by decide +kernel
theorem op142_39 : rn_op 142 39 = some (.aaload, 1, 0, 0, 0) := by decide +kernel
theorem op142_40 : rn_op 142 40 = some (.getfield 307, 3, 5, 2, 0) := by decide +kernel
theorem op142_43 : rn_op 142 43 = some (.ireturn, 1, 0, 0, 0) := by decide +kernel
def lt_drop (n : Nat) (a1 : Int32) (m : rn_Mem) : Option (Int32 × rn_Mem) :=
  (lt_isNoSheet n a1 m).bind fun (r2, m1) =>
  if r2 = 0 then
    if rn_in a1 4 = true then
      if (m1.1 (107 + 2 * a1.toNatClampNeg) 0) = 0 then
        some ((-11), m1)
      else
        if rn_in a1 4 = true then
          (some (rm_i m1 (107 + 2 * a1.toNatClampNeg) 0 0)).bind fun (m8 : rn_Mem) =>
          if rn_in a1 4 = true then
            some (m8.1 (107 + 2 * a1.toNatClampNeg) 2, m8)
          else none
        else none
    else none
  else
    some ((-1), m1)
set_option maxHeartbeats 4000000 in
set_option maxRecDepth 20000 in
theorem lt_drop_ok (xs : List Int32) {d : Nat} (hd : 1 ≤ d) {n : Nat} {a1 : Int32} {m mO : rn_Mem} {rO : Int32} (h : lt_drop n a1 m = some (rO, mO)) : rn_R xs d 142 0 (rn_ent 2 [.ref 0, .int a1]) [] (rn_SH, m) (some (.int rO)) (rn_SH, mO) := by
  obtain ⟨d, rfl⟩ : ∃ e, d = e + 1 := ⟨d - 1, by omega⟩
  unfold lt_drop at h
  show rn_R xs (d + 1) 142 0 [some (.ref 0), some (.int a1)] [] (rn_SH, m) (some (.int rO)) (rn_SH, mO)
  refine rx_p (L2 := [some (.ref 0), some (.int a1)]) (S2 := [.int a1]) (pc2 := 1) op142_0 rfl rfl ?_
  obtain ⟨⟨r2, m1⟩, f3, h⟩ := rq_bind h
  try dsimp only at h
  refine ry_is (vs := [.int a1]) (T := []) (pc2 := 4) op142_1 (by decide) ms_109 (by decide) rfl rfl (Nat.le_of_ble_eq_true rfl) (Nat.le_of_ble_eq_true rfl) (lt_isNoSheet_ok xs (by omega)  f3) rfl ?_
  show rn_R _ _ _ _ _ [.int r2] _ _ _
  refine ry_if_eq (tgt := 9) (pc2 := 7) op142_4 (by decide) (by decide) rfl (fun b4 => ?_) (fun b4 => ?_)
  · have h := (if_pos b4).symm.trans h
    refine rx_p (L2 := [some (.ref 0), some (.int a1)]) (S2 := [.ref 0]) (pc2 := 10) op142_9 rfl rfl ?_
    refine rx_gf (v := .ref 106) (pc2 := 13) op142_10 sp_0 rfl rfl rfl ?_
    refine rx_p (L2 := [some (.ref 0), some (.int a1)]) (S2 := [.int a1, .ref 106]) (pc2 := 14) op142_13 rfl rfl ?_
    obtain ⟨k5, h⟩ := rq_chk h
    refine rx_aa (q := (107 + 2 * a1.toNatClampNeg)) (pc2 := 15) op142_14 sp_106 (by decide) k5 (rn_sheets_at k5) rfl ?_
    refine rx_gf (v := .int (m1.1 (107 + 2 * a1.toNatClampNeg) 0)) (pc2 := 18) op142_15 ((rn_sheets_asm k5).1) rfl rfl rfl ?_
    refine ry_if_ne (tgt := 24) (pc2 := 21) op142_18 (by decide) (by decide) rfl (fun b6 => ?_) (fun b6 => ?_)
    · have h := (if_pos b6).symm.trans h
      refine rx_bp (v := (-11)) (pc2 := 23) op142_21 (by decide) rfl ?_
      obtain ⟨rfl, rfl⟩ := rq_ret h
      exact ry_ri op142_23 ms_142 rfl
    · have h := (if_neg b6).symm.trans h
      refine rx_p (L2 := [some (.ref 0), some (.int a1)]) (S2 := [.ref 0]) (pc2 := 25) op142_24 rfl rfl ?_
      refine rx_gf (v := .ref 106) (pc2 := 28) op142_25 sp_0 rfl rfl rfl ?_
      refine rx_p (L2 := [some (.ref 0), some (.int a1)]) (S2 := [.int a1, .ref 106]) (pc2 := 29) op142_28 rfl rfl ?_
      obtain ⟨k7, h⟩ := rq_chk h
      refine rx_aa (q := (107 + 2 * a1.toNatClampNeg)) (pc2 := 30) op142_29 sp_106 (by decide) k7 (rn_sheets_at k7) rfl ?_
      refine rx_ic (v := 0) (pc2 := 31) op142_30 (by decide) rfl ?_
      obtain ⟨m8, em8, h⟩ := rq_bv h
      refine rx_pz (m2 := m8) (pc2 := 34) op142_31 ((rn_sheets_asm k7).1) rfl (by decide) em8 rfl ?_
      refine rx_p (L2 := [some (.ref 0), some (.int a1)]) (S2 := [.ref 0]) (pc2 := 35) op142_34 rfl rfl ?_
      refine rx_gf (v := .ref 106) (pc2 := 38) op142_35 sp_0 rfl rfl rfl ?_
      refine rx_p (L2 := [some (.ref 0), some (.int a1)]) (S2 := [.int a1, .ref 106]) (pc2 := 39) op142_38 rfl rfl ?_
      obtain ⟨k9, h⟩ := rq_chk h
      refine rx_aa (q := (107 + 2 * a1.toNatClampNeg)) (pc2 := 40) op142_39 sp_106 (by decide) k9 (rn_sheets_at k9) rfl ?_
      refine rx_gf (v := .int (m8.1 (107 + 2 * a1.toNatClampNeg) 2)) (pc2 := 43) op142_40 ((rn_sheets_asm k9).1) rfl rfl rfl ?_
      obtain ⟨rfl, rfl⟩ := rq_ret h
      exact ry_ri op142_43 ms_142 rfl
  · have h := (if_neg b4).symm.trans h
    refine rx_ic (v := (-1)) (pc2 := 8) op142_7 (by decide) rfl ?_
    obtain ⟨rfl, rfl⟩ := rq_ret h
    exact ry_ri op142_8 ms_142 rfl
/-! sh_put -/
theorem op144_0 : rn_op 144 0 = some (.aload_n 0, 1, 0, 0, 0) := by decide +kernel
theorem op144_1 : rn_op 144 1 = some (.getfield 9, 3, 5, 3, 3) := by decide +kernel
theorem op144_4 : rn_op 144 4 = some (.iload_n 1, 1, 0, 0, 0) := by decide +kernel
theorem op144_5 : rn_op 144 5 = some (.aload_n 0, 1, 0, 0, 0) := by decide +kernel
theorem op144_6 : rn_op 144 6 = some (.getfield 19, 3, 5, 1, 0) := by decide +kernel
theorem op144_9 : rn_op 144 9 = some (.ifCond .ne 8, 3, 0, 0, 0) := by decide +kernel
theorem op144_12 : rn_op 144 12 = some (.iload_n 2, 1, 0, 0, 0) := by decide +kernel
theorem op144_13 : rn_op 144 13 = some (.i2b, 1, 0, 0, 0) := by decide +kernel
theorem op144_14 : rn_op 144 14 = some (.goto 17, 3, 0, 0, 0) := by decide +kernel
theorem op144_17 : rn_op 144 17 = some (.aload_n 0, 1, 0, 0, 0) := by decide +kernel
theorem op144_18 : rn_op 144 18 = some (.getfield 19, 3, 5, 1, 0) := by decide +kernel
theorem op144_21 : rn_op 144 21 = some (.iconst 1, 1, 0, 0, 0) := by decide +kernel
theorem op144_22 : rn_op 144 22 = some (.if_icmp .ne 8, 3, 0, 0, 0) := by decide +kernel
theorem op144_25 : rn_op 144 25 = some (.iload_n 2, 1, 0, 0, 0) := by decide +kernel
theorem op144_26 : rn_op 144 26 = some (.i2s, 1, 0, 0, 0) := by decide +kernel
theorem op144_27 : rn_op 144 27 = some (.goto 4, 3, 0, 0, 0) := by decide +kernel
theorem op144_30 : rn_op 144 30 = some (.iload_n 2, 1, 0, 0, 0) := by decide +kernel
theorem op144_31 : rn_op 144 31 = some (.iastore, 1, 0, 0, 0) := by decide +kernel
theorem op144_32 : rn_op 144 32 = some (.return_, 1, 0, 0, 0) := by decide +kernel
def sh_put (n : Nat) (q0 : Nat) (a1 : Int32) (a2 : Int32) (m : rn_Mem) : Option (rn_Mem) :=
  (show Option (Int32) from
    if (m.1 q0 1) = 0 then
      some (a2.toInt8.toInt32)
    else
      if (m.1 q0 1) = 1 then
        some (a2.toInt16.toInt32)
      else
        some (a2)).bind fun x6 =>
  if rn_in a1 24 = true then
    (some (rm_i m (q0 + 1) a1.toNatClampNeg x6)).bind fun (m7 : rn_Mem) =>
    some m7
  else none
set_option maxHeartbeats 4000000 in
set_option maxRecDepth 20000 in
theorem sh_put_ok (xs : List Int32) {d : Nat} (hd : 0 ≤ d) {n : Nat} {q0 : Nat} {a1 : Int32} {a2 : Int32} {m mO : rn_Mem} (hq0 : sA_Sheet q0) (h : sh_put n q0 a1 a2 m = some mO) : rn_R xs d 144 0 (rn_ent 3 [.ref q0, .int a1, .int a2]) [] (rn_SH, m) none (rn_SH, mO) := by
  unfold sh_put at h
  show rn_R xs d 144 0 [some (.ref q0), some (.int a1), some (.int a2)] [] (rn_SH, m) none (rn_SH, mO)
  refine rx_p (L2 := [some (.ref q0), some (.int a1), some (.int a2)]) (S2 := [.ref q0]) (pc2 := 1) op144_0 rfl rfl ?_
  refine rx_gf (v := .ref (q0 + 1)) (pc2 := 4) op144_1 (hq0.1) rfl rfl rfl ?_
  refine rx_p (L2 := [some (.ref q0), some (.int a1), some (.int a2)]) (S2 := [.int a1, .ref (q0 + 1)]) (pc2 := 5) op144_4 rfl rfl ?_
  refine rx_p (L2 := [some (.ref q0), some (.int a1), some (.int a2)]) (S2 := [.ref q0, .int a1, .ref (q0 + 1)]) (pc2 := 6) op144_5 rfl rfl ?_
  refine rx_gf (v := .int (m.1 q0 1)) (pc2 := 9) op144_6 (hq0.1) rfl rfl rfl ?_
  obtain ⟨x6, gc9, h⟩ := rq_bind h
  try dsimp only at h
  have c9 : ∀ (o3 o4 o5 : Option Value), rn_R xs d 144 31 [o3, o4, o5] [.int x6, .int a1, .ref (q0 + 1)] (rn_SH, m) none (rn_SH, mO) := by
    intro o3 o4 o5
    obtain ⟨k8, h⟩ := rq_chk h
    obtain ⟨m7, em7, h⟩ := rq_bv h
    refine rx_is (m2 := m7) (pc2 := 32) op144_31 (hq0.2) k8 rfl em7 rfl ?_
    obtain rfl := Option.some.inj h
    exact ry_rv op144_32 ms_144 rfl
  refine ry_if_ne (tgt := 17) (pc2 := 12) op144_9 (by decide) (by decide) rfl (fun b1 => ?_) (fun b1 => ?_)
  · have gc9 := (if_pos b1).symm.trans gc9
    refine rx_p (L2 := [some (.ref q0), some (.int a1), some (.int a2)]) (S2 := [.int a2, .int a1, .ref (q0 + 1)]) (pc2 := 13) op144_12 rfl rfl ?_
    refine rx_p (L2 := [some (.ref q0), some (.int a1), some (.int a2)]) (S2 := [.int (a2.toInt8.toInt32), .int a1, .ref (q0 + 1)]) (pc2 := 14) op144_13 rfl rfl ?_
    refine ry_go (tgt := 31) op144_14 (by decide) (by decide) ?_
    cases gc9
    exact c9 _ _ _
  · have gc9 := (if_neg b1).symm.trans gc9
    refine rx_p (L2 := [some (.ref q0), some (.int a1), some (.int a2)]) (S2 := [.ref q0, .int a1, .ref (q0 + 1)]) (pc2 := 18) op144_17 rfl rfl ?_
    refine rx_gf (v := .int (m.1 q0 1)) (pc2 := 21) op144_18 (hq0.1) rfl rfl rfl ?_
    refine rx_ic (v := 1) (pc2 := 22) op144_21 (by decide) rfl ?_
    refine ry_ic_ne (tgt := 30) (pc2 := 25) op144_22 (by decide) (by decide) rfl (fun b2 => ?_) (fun b2 => ?_)
    · have gc9 := (if_pos b2).symm.trans gc9
      refine rx_p (L2 := [some (.ref q0), some (.int a1), some (.int a2)]) (S2 := [.int a2, .int a1, .ref (q0 + 1)]) (pc2 := 26) op144_25 rfl rfl ?_
      refine rx_p (L2 := [some (.ref q0), some (.int a1), some (.int a2)]) (S2 := [.int (a2.toInt16.toInt32), .int a1, .ref (q0 + 1)]) (pc2 := 27) op144_26 rfl rfl ?_
      refine ry_go (tgt := 31) op144_27 (by decide) (by decide) ?_
      cases gc9
      exact c9 _ _ _
    · have gc9 := (if_neg b2).symm.trans gc9
      refine rx_p (L2 := [some (.ref q0), some (.int a1), some (.int a2)]) (S2 := [.int a2, .int a1, .ref (q0 + 1)]) (pc2 := 31) op144_30 rfl rfl ?_
      cases gc9
      exact c9 _ _ _
/-! lt_item -/
theorem op143_0 : rn_op 143 0 = some (.iload_n 1, 1, 0, 0, 0) := by decide +kernel
theorem op143_1 : rn_op 143 1 = some (.invokestatic 246, 3, 109, 1, 0) := by decide +kernel
theorem op143_4 : rn_op 143 4 = some (.ifCond .ne 10, 3, 0, 0, 0) := by decide +kernel
theorem op143_7 : rn_op 143 7 = some (.iload_n 2, 1, 0, 0, 0) := by decide +kernel
theorem op143_8 : rn_op 143 8 = some (.invokestatic 249, 3, 110, 1, 0) := by decide +kernel
theorem op143_11 : rn_op 143 11 = some (.ifCond .eq 5, 3, 0, 0, 0) := by decide +kernel
theorem op143_14 : rn_op 143 14 = some (.iconst (-1), 1, 0, 0, 0) := by decide +kernel
theorem op143_15 : rn_op 143 15 = some (.ireturn, 1, 0, 0, 0) := by decide +kernel
theorem op143_16 : rn_op 143 16 = some (.aload_n 0, 1, 0, 0, 0) := by decide +kernel
theorem op143_17 : rn_op 143 17 = some (.getfield 45, 3, 10, 6, 3) := by decide +kernel
theorem op143_20 : rn_op 143 20 = some (.iload_n 1, 1, 0, 0, 0) := by decide +kernel
theorem op143_21 : rn_op 143 21 = some (.aaload, 1, 0, 0, 0) := by decide +kernel
theorem op143_22 : rn_op 143 22 = some (.iload_n 2, 1, 0, 0, 0) := by decide +kernel
theorem op143_23 : rn_op 143 23 = some (.iload_n 3, 1, 0, 0, 0) := by decide +kernel
theorem op143_24 : rn_op 143 24 = some (.iconst 1, 1, 0, 0, 0) := by decide +kernel
theorem op143_25 : rn_op 143 25 = some (.invokevirtual 252, 3, 111, 4, 5) := by decide +kernel
theorem op143_28 : rn_op 143 28 = some (.istore 5, 2, 0, 0, 0) := by decide +kernel
theorem op143_30 : rn_op 143 30 = some (.iload 5, 2, 0, 0, 0) := by decide +kernel
theorem op143_32 : rn_op 143 32 = some (.ifCond .eq 6, 3, 0, 0, 0) := by decide +kernel
theorem op143_35 : rn_op 143 35 = some (.iload 5, 2, 0, 0, 0) := by decide +kernel
theorem op143_37 : rn_op 143 37 = some (.ireturn, 1, 0, 0, 0) := by decide +kernel
theorem op143_38 : rn_op 143 38 = some (.aload_n 0, 1, 0, 0, 0) := by decide +kernel
theorem op143_39 : rn_op 143 39 = some (.getfield 45, 3, 10, 6, 3) := by decide +kernel
theorem op143_42 : rn_op 143 42 = some (.iload_n 1, 1, 0, 0, 0) := by decide +kernel
theorem op143_43 : rn_op 143 43 = some (.aaload, 1, 0, 0, 0) := by decide +kernel
theorem op143_44 : rn_op 143 44 = some (.iload_n 3, 1, 0, 0, 0) := by decide +kernel
theorem op143_45 : rn_op 143 45 = some (.iload 4, 2, 0, 0, 0) := by decide +kernel
theorem op143_47 : rn_op 143 47 = some (.invokevirtual 308, 3, 144, 3, 5) := by decide +kernel
theorem op143_50 : rn_op 143 50 = some (.iconst 1, 1, 0, 0, 0) := by decide +kernel
theorem op143_51 : rn_op 143 51 = some (.ireturn, 1, 0, 0, 0) := by decide +kernel
def lt_item (n : Nat) (a1 : Int32) (a2 : Int32) (a3 : Int32) (a4 : Int32) (m : rn_Mem) : Option (Int32 × rn_Mem) :=
  (lt_isNoSheet n a1 m).bind fun (r2, m1) =>
  if r2 = 0 then
    (lt_isNoLane n a2 m1).bind fun (r6, m5) =>
    if r6 = 0 then
      if rn_in a1 4 = true then
        (sh_refusal n (107 + 2 * a1.toNatClampNeg) a2 a3 1 m5).bind fun (r11, m10) =>
        if r11 = 0 then
          if rn_in a1 4 = true then
            (sh_put n (107 + 2 * a1.toNatClampNeg) a3 a4 m10).bind fun m15 =>
            some (1, m15)
          else none
        else
          some (r11, m10)
      else none
    else
      some ((-1), m5)
  else
    some ((-1), m1)
set_option maxHeartbeats 4000000 in
set_option maxRecDepth 20000 in
theorem lt_item_ok (xs : List Int32) {d : Nat} (hd : 1 ≤ d) {n : Nat} {a1 : Int32} {a2 : Int32} {a3 : Int32} {a4 : Int32} {m mO : rn_Mem} {rO : Int32} (h : lt_item n a1 a2 a3 a4 m = some (rO, mO)) : rn_R xs d 143 0 (rn_ent 6 [.ref 0, .int a1, .int a2, .int a3, .int a4]) [] (rn_SH, m) (some (.int rO)) (rn_SH, mO) := by
  obtain ⟨d, rfl⟩ : ∃ e, d = e + 1 := ⟨d - 1, by omega⟩
  unfold lt_item at h
  show rn_R xs (d + 1) 143 0 [some (.ref 0), some (.int a1), some (.int a2), some (.int a3), some (.int a4), none] [] (rn_SH, m) (some (.int rO)) (rn_SH, mO)
  refine rx_p (L2 := [some (.ref 0), some (.int a1), some (.int a2), some (.int a3), some (.int a4), none]) (S2 := [.int a1]) (pc2 := 1) op143_0 rfl rfl ?_
  obtain ⟨⟨r2, m1⟩, f3, h⟩ := rq_bind h
  try dsimp only at h
  refine ry_is (vs := [.int a1]) (T := []) (pc2 := 4) op143_1 (by decide) ms_109 (by decide) rfl rfl (Nat.le_of_ble_eq_true rfl) (Nat.le_of_ble_eq_true rfl) (lt_isNoSheet_ok xs (by omega)  f3) rfl ?_
  show rn_R _ _ _ _ _ [.int r2] _ _ _
  refine ry_if_ne (tgt := 14) (pc2 := 7) op143_4 (by decide) (by decide) rfl (fun b4 => ?_) (fun b4 => ?_)
  · have h := (if_pos b4).symm.trans h
    refine rx_p (L2 := [some (.ref 0), some (.int a1), some (.int a2), some (.int a3), some (.int a4), none]) (S2 := [.int a2]) (pc2 := 8) op143_7 rfl rfl ?_
    obtain ⟨⟨r6, m5⟩, f7, h⟩ := rq_bind h
    try dsimp only at h
    refine ry_is (vs := [.int a2]) (T := []) (pc2 := 11) op143_8 (by decide) ms_110 (by decide) rfl rfl (Nat.le_of_ble_eq_true rfl) (Nat.le_of_ble_eq_true rfl) (lt_isNoLane_ok xs (by omega)  f7) rfl ?_
    show rn_R _ _ _ _ _ [.int r6] _ _ _
    refine ry_if_eq (tgt := 16) (pc2 := 14) op143_11 (by decide) (by decide) rfl (fun b8 => ?_) (fun b8 => ?_)
    · have h := (if_pos b8).symm.trans h
      refine rx_p (L2 := [some (.ref 0), some (.int a1), some (.int a2), some (.int a3), some (.int a4), none]) (S2 := [.ref 0]) (pc2 := 17) op143_16 rfl rfl ?_
      refine rx_gf (v := .ref 106) (pc2 := 20) op143_17 sp_0 rfl rfl rfl ?_
      refine rx_p (L2 := [some (.ref 0), some (.int a1), some (.int a2), some (.int a3), some (.int a4), none]) (S2 := [.int a1, .ref 106]) (pc2 := 21) op143_20 rfl rfl ?_
      obtain ⟨k9, h⟩ := rq_chk h
      refine rx_aa (q := (107 + 2 * a1.toNatClampNeg)) (pc2 := 22) op143_21 sp_106 (by decide) k9 (rn_sheets_at k9) rfl ?_
      refine rx_p (L2 := [some (.ref 0), some (.int a1), some (.int a2), some (.int a3), some (.int a4), none]) (S2 := [.int a2, .ref (107 + 2 * a1.toNatClampNeg)]) (pc2 := 23) op143_22 rfl rfl ?_
      refine rx_p (L2 := [some (.ref 0), some (.int a1), some (.int a2), some (.int a3), some (.int a4), none]) (S2 := [.int a3, .int a2, .ref (107 + 2 * a1.toNatClampNeg)]) (pc2 := 24) op143_23 rfl rfl ?_
      refine rx_ic (v := 1) (pc2 := 25) op143_24 (by decide) rfl ?_
      obtain ⟨⟨r11, m10⟩, f12, h⟩ := rq_bind h
      try dsimp only at h
      refine ry_iv (p := (107 + 2 * a1.toNatClampNeg)) (vs := [.int a2, .int a3, .int 1]) (T := []) (pc2 := 28) op143_25 ms_111 (by decide) rfl rfl (Nat.le_of_ble_eq_true rfl) (Nat.le_of_ble_eq_true rfl) ((rn_sheets_asm k9).1) (sh_refusal_ok xs (by omega) (rn_sheets_asm k9) f12) rfl ?_
      show rn_R _ _ _ _ _ [.int r11] _ _ _
      refine rx_s (L2 := [some (.ref 0), some (.int a1), some (.int a2), some (.int a3), some (.int a4), some (.int r11)]) (pc2 := 30) op143_28 rfl rfl rfl ?_
      refine rx_p (L2 := [some (.ref 0), some (.int a1), some (.int a2), some (.int a3), some (.int a4), some (.int r11)]) (S2 := [.int r11]) (pc2 := 32) op143_30 rfl rfl ?_
      refine ry_if_eq (tgt := 38) (pc2 := 35) op143_32 (by decide) (by decide) rfl (fun b13 => ?_) (fun b13 => ?_)
      · have h := (if_pos b13).symm.trans h
        refine rx_p (L2 := [some (.ref 0), some (.int a1), some (.int a2), some (.int a3), some (.int a4), some (.int r11)]) (S2 := [.ref 0]) (pc2 := 39) op143_38 rfl rfl ?_
        refine rx_gf (v := .ref 106) (pc2 := 42) op143_39 sp_0 rfl rfl rfl ?_
        refine rx_p (L2 := [some (.ref 0), some (.int a1), some (.int a2), some (.int a3), some (.int a4), some (.int r11)]) (S2 := [.int a1, .ref 106]) (pc2 := 43) op143_42 rfl rfl ?_
        obtain ⟨k14, h⟩ := rq_chk h
        refine rx_aa (q := (107 + 2 * a1.toNatClampNeg)) (pc2 := 44) op143_43 sp_106 (by decide) k14 (rn_sheets_at k14) rfl ?_
        refine rx_p (L2 := [some (.ref 0), some (.int a1), some (.int a2), some (.int a3), some (.int a4), some (.int r11)]) (S2 := [.int a3, .ref (107 + 2 * a1.toNatClampNeg)]) (pc2 := 45) op143_44 rfl rfl ?_
        refine rx_p (L2 := [some (.ref 0), some (.int a1), some (.int a2), some (.int a3), some (.int a4), some (.int r11)]) (S2 := [.int a4, .int a3, .ref (107 + 2 * a1.toNatClampNeg)]) (pc2 := 47) op143_45 rfl rfl ?_
        obtain ⟨m15, f16, h⟩ := rq_bind h
        try dsimp only at h
        refine ry_iv (p := (107 + 2 * a1.toNatClampNeg)) (vs := [.int a3, .int a4]) (T := []) (pc2 := 50) op143_47 ms_144 (by decide) rfl rfl (Nat.le_of_ble_eq_true rfl) (Nat.le_of_ble_eq_true rfl) ((rn_sheets_asm k14).1) (sh_put_ok xs (by omega) (rn_sheets_asm k14) f16) rfl ?_
        show rn_R _ _ _ _ _ [] _ _ _
        refine rx_ic (v := 1) (pc2 := 51) op143_50 (by decide) rfl ?_
        obtain ⟨rfl, rfl⟩ := rq_ret h
        exact ry_ri op143_51 ms_143 rfl
      · have h := (if_neg b13).symm.trans h
        refine rx_p (L2 := [some (.ref 0), some (.int a1), some (.int a2), some (.int a3), some (.int a4), some (.int r11)]) (S2 := [.int r11]) (pc2 := 37) op143_35 rfl rfl ?_
        obtain ⟨rfl, rfl⟩ := rq_ret h
        exact ry_ri op143_37 ms_143 rfl
    · have h := (if_neg b8).symm.trans h
      refine rx_ic (v := (-1)) (pc2 := 15) op143_14 (by decide) rfl ?_
      obtain ⟨rfl, rfl⟩ := rq_ret h
      exact ry_ri op143_15 ms_143 rfl
  · have h := (if_neg b4).symm.trans h
    refine rx_ic (v := (-1)) (pc2 := 15) op143_14 (by decide) rfl ?_
    obtain ⟨rfl, rfl⟩ := rq_ret h
    exact ry_ri op143_15 ms_143 rfl
/-! mo_in -/
theorem op147_0 : rn_op 147 0 = some (.lload_n 0, 1, 0, 0, 0) := by decide +kernel
theorem op147_1 : rn_op 147 1 = some (.lload_n 2, 1, 0, 0, 0) := by decide +kernel
theorem op147_2 : rn_op 147 2 = some (.lcmp, 1, 0, 0, 0) := by decide +kernel
theorem op147_3 : rn_op 147 3 = some (.ifCond .lt 14, 3, 0, 0, 0) := by decide +kernel
theorem op147_6 : rn_op 147 6 = some (.lload_n 0, 1, 0, 0, 0) := by decide +kernel
theorem op147_7 : rn_op 147 7 = some (.lload 4, 2, 0, 0, 0) := by decide +kernel
theorem op147_9 : rn_op 147 9 = some (.lcmp, 1, 0, 0, 0) := by decide +kernel
theorem op147_10 : rn_op 147 10 = some (.ifCond .gt 7, 3, 0, 0, 0) := by decide +kernel
theorem op147_13 : rn_op 147 13 = some (.iconst 1, 1, 0, 0, 0) := by decide +kernel
theorem op147_14 : rn_op 147 14 = some (.goto 4, 3, 0, 0, 0) := by decide +kernel
theorem op147_17 : rn_op 147 17 = some (.iconst 0, 1, 0, 0, 0) := by decide +kernel
theorem op147_18 : rn_op 147 18 = some (.ireturn, 1, 0, 0, 0) := by decide +kernel
def mo_in (n : Nat) (a0 : Int64) (a1 : Int64) (a2 : Int64) (m : rn_Mem) : Option (Int32 × rn_Mem) :=
  if (lg_cmp a0 a1) < 0 then
    some (0, m)
  else
    if 0 < (lg_cmp a0 a2) then
      some (0, m)
    else
      some (1, m)
set_option maxHeartbeats 4000000 in
set_option maxRecDepth 20000 in
theorem mo_in_ok (xs : List Int32) {d : Nat} (hd : 0 ≤ d) {n : Nat} {a0 : Int64} {a1 : Int64} {a2 : Int64} {m mO : rn_Mem} {rO : Int32} (h : mo_in n a0 a1 a2 m = some (rO, mO)) : rn_R xs d 147 0 (rn_ent 6 [.long a0, .long a1, .long a2]) [] (rn_SH, m) (some (.int rO)) (rn_SH, mO) := by
  unfold mo_in at h
  show rn_R xs d 147 0 [some (.long a0), none, some (.long a1), none, some (.long a2), none] [] (rn_SH, m) (some (.int rO)) (rn_SH, mO)
  refine rx_p (L2 := [some (.long a0), none, some (.long a1), none, some (.long a2), none]) (S2 := [.long a0]) (pc2 := 1) op147_0 rfl rfl ?_
  refine rx_p (L2 := [some (.long a0), none, some (.long a1), none, some (.long a2), none]) (S2 := [.long a1, .long a0]) (pc2 := 2) op147_1 rfl rfl ?_
  refine rx_p (L2 := [some (.long a0), none, some (.long a1), none, some (.long a2), none]) (S2 := [.int (lg_cmp a0 a1)]) (pc2 := 3) op147_2 rfl rfl ?_
  refine ry_if_lt (tgt := 17) (pc2 := 6) op147_3 (by decide) (by decide) rfl (fun b1 => ?_) (fun b1 => ?_)
  · have h := (if_pos b1).symm.trans h
    refine rx_ic (v := 0) (pc2 := 18) op147_17 (by decide) rfl ?_
    obtain ⟨rfl, rfl⟩ := rq_ret h
    exact ry_rz (x := 0) op147_18 ms_147 rfl (by decide)
  · have h := (if_neg b1).symm.trans h
    refine rx_p (L2 := [some (.long a0), none, some (.long a1), none, some (.long a2), none]) (S2 := [.long a0]) (pc2 := 7) op147_6 rfl rfl ?_
    refine rx_p (L2 := [some (.long a0), none, some (.long a1), none, some (.long a2), none]) (S2 := [.long a2, .long a0]) (pc2 := 9) op147_7 rfl rfl ?_
    refine rx_p (L2 := [some (.long a0), none, some (.long a1), none, some (.long a2), none]) (S2 := [.int (lg_cmp a0 a2)]) (pc2 := 10) op147_9 rfl rfl ?_
    refine ry_if_gt (tgt := 17) (pc2 := 13) op147_10 (by decide) (by decide) rfl (fun b2 => ?_) (fun b2 => ?_)
    · have h := (if_pos b2).symm.trans h
      refine rx_ic (v := 0) (pc2 := 18) op147_17 (by decide) rfl ?_
      obtain ⟨rfl, rfl⟩ := rq_ret h
      exact ry_rz (x := 0) op147_18 ms_147 rfl (by decide)
    · have h := (if_neg b2).symm.trans h
      refine rx_ic (v := 1) (pc2 := 14) op147_13 (by decide) rfl ?_
      refine ry_go (tgt := 18) op147_14 (by decide) (by decide) ?_
      obtain ⟨rfl, rfl⟩ := rq_ret h
      exact ry_rz (x := 1) op147_18 ms_147 rfl (by decide)
/-! mo_type -/
theorem op146_0 : rn_op 146 0 = some (.iload_n 3, 1, 0, 0, 0) := by decide +kernel
theorem op146_1 : rn_op 146 1 = some (.i2l, 1, 0, 0, 0) := by decide +kernel
theorem op146_2 : rn_op 146 2 = some (.lconst 1, 1, 0, 0, 0) := by decide +kernel
theorem op146_3 : rn_op 146 3 = some (.ldc2_w 127, 3, 8, 0, 0) := by decide +kernel
theorem op146_6 : rn_op 146 6 = some (.invokestatic 121, 3, 147, 3, 0) := by decide +kernel
theorem op146_9 : rn_op 146 9 = some (.ifCond .ne 5, 3, 0, 0, 0) := by decide +kernel
theorem op146_12 : rn_op 146 12 = some (.iconst (-1), 1, 0, 0, 0) := by decide +kernel
theorem op146_13 : rn_op 146 13 = some (.ireturn, 1, 0, 0, 0) := by decide +kernel
theorem op146_14 : rn_op 146 14 = some (.iload_n 3, 1, 0, 0, 0) := by decide +kernel
theorem op146_15 : rn_op 146 15 = some (.iconst 1, 1, 0, 0, 0) := by decide +kernel
theorem op146_16 : rn_op 146 16 = some (.isub, 1, 0, 0, 0) := by decide +kernel
theorem op146_17 : rn_op 146 17 = some (.istore 4, 2, 0, 0, 0) := by decide +kernel
theorem op146_19 : rn_op 146 19 = some (.iload 4, 2, 0, 0, 0) := by decide +kernel
theorem op146_21 : rn_op 146 21 = some (.ifCond .lt 34, 3, 0, 0, 0) := by decide +kernel
theorem op146_24 : rn_op 146 24 = some (.lload_n 1, 1, 0, 0, 0) := by decide +kernel
theorem op146_25 : rn_op 146 25 = some (.bipush 8, 2, 0, 0, 0) := by decide +kernel
theorem op146_27 : rn_op 146 27 = some (.iload 4, 2, 0, 0, 0) := by decide +kernel
theorem op146_29 : rn_op 146 29 = some (.imul, 1, 0, 0, 0) := by decide +kernel
theorem op146_30 : rn_op 146 30 = some (.lshr, 1, 0, 0, 0) := by decide +kernel
theorem op146_31 : rn_op 146 31 = some (.ldc2_w 129, 3, 255, 0, 0) := by decide +kernel
theorem op146_34 : rn_op 146 34 = some (.land, 1, 0, 0, 0) := by decide +kernel
theorem op146_35 : rn_op 146 35 = some (.ldc2_w 131, 3, 32, 0, 0) := by decide +kernel
theorem op146_38 : rn_op 146 38 = some (.ldc2_w 133, 3, 126, 0, 0) := by decide +kernel
theorem op146_41 : rn_op 146 41 = some (.invokestatic 121, 3, 147, 3, 0) := by decide +kernel
theorem op146_44 : rn_op 146 44 = some (.ifCond .ne 5, 3, 0, 0, 0) := by decide +kernel
theorem op146_47 : rn_op 146 47 = some (.iconst (-1), 1, 0, 0, 0) := by decide +kernel
theorem op146_48 : rn_op 146 48 = some (.ireturn, 1, 0, 0, 0) := by decide +kernel
theorem op146_49 : rn_op 146 49 = some (.iinc 4 (-1), 3, 0, 0, 0) := by decide +kernel
theorem op146_52 : rn_op 146 52 = some (.goto (-33), 3, 0, 0, 0) := by decide +kernel
theorem op146_55 : rn_op 146 55 = some (.aload_n 0, 1, 0, 0, 0) := by decide +kernel
theorem op146_56 : rn_op 146 56 = some (.getfield 135, 3, 11, 2, 0) := by decide +kernel
theorem op146_59 : rn_op 146 59 = some (.iload_n 3, 1, 0, 0, 0) := by decide +kernel
theorem op146_60 : rn_op 146 60 = some (.iadd, 1, 0, 0, 0) := by decide +kernel
theorem op146_61 : rn_op 146 61 = some (.bipush 80, 2, 0, 0, 0) := by decide +kernel
theorem op146_63 : rn_op 146 63 = some (.if_icmp .le 6, 3, 0, 0, 0) := by decide +kernel
theorem op146_66 : rn_op 146 66 = some (.bipush (-3), 2, 0, 0, 0) := by decide +kernel
theorem op146_68 : rn_op 146 68 = some (.ireturn, 1, 0, 0, 0) := by decide +kernel
theorem op146_69 : rn_op 146 69 = some (.iload_n 3, 1, 0, 0, 0) := by decide +kernel
theorem op146_70 : rn_op 146 70 = some (.iconst 1, 1, 0, 0, 0) := by decide +kernel
theorem op146_71 : rn_op 146 71 = some (.isub, 1, 0, 0, 0) := by decide +kernel
theorem op146_72 : rn_op 146 72 = some (.istore 4, 2, 0, 0, 0) := by decide +kernel
theorem op146_74 : rn_op 146 74 = some (.iload 4, 2, 0, 0, 0) := by decide +kernel
theorem op146_76 : rn_op 146 76 = some (.ifCond .lt 40, 3, 0, 0, 0) := by decide +kernel
theorem op146_79 : rn_op 146 79 = some (.aload_n 0, 1, 0, 0, 0) := by decide +kernel
theorem op146_80 : rn_op 146 80 = some (.getfield 13, 3, 11, 1, 3) := by decide +kernel
theorem op146_83 : rn_op 146 83 = some (.aload_n 0, 1, 0, 0, 0) := by decide +kernel
theorem op146_84 : rn_op 146 84 = some (.getfield 135, 3, 11, 2, 0) := by decide +kernel
theorem op146_87 : rn_op 146 87 = some (.lload_n 1, 1, 0, 0, 0) := by decide +kernel
theorem op146_88 : rn_op 146 88 = some (.bipush 8, 2, 0, 0, 0) := by decide +kernel
theorem op146_90 : rn_op 146 90 = some (.iload 4, 2, 0, 0, 0) := by decide +kernel
theorem op146_92 : rn_op 146 92 = some (.imul, 1, 0, 0, 0) := by decide +kernel
theorem op146_93 : rn_op 146 93 = some (.lshr, 1, 0, 0, 0) := by decide +kernel
theorem op146_94 : rn_op 146 94 = some (.ldc2_w 129, 3, 255, 0, 0) := by decide +kernel
theorem op146_97 : rn_op 146 97 = some (.land, 1, 0, 0, 0) := by decide +kernel
theorem op146_98 : rn_op 146 98 = some (.l2i, 1, 0, 0, 0) := by decide +kernel
theorem op146_99 : rn_op 146 99 = some (.iastore, 1, 0, 0, 0) := by decide +kernel
theorem op146_100 : rn_op 146 100 = some (.aload_n 0, 1, 0, 0, 0) := by decide +kernel
theorem op146_101 : rn_op 146 101 = some (.dup, 1, 0, 0, 0) := by decide +kernel
theorem op146_102 : rn_op 146 102 = some (.getfield 135, 3, 11, 2, 0) := by decide +kernel
theorem op146_105 : rn_op 146 105 = some (.iconst 1, 1, 0, 0, 0) := by decide +kernel
theorem op146_106 : rn_op 146 106 = some (.iadd, 1, 0, 0, 0) := by decide +kernel
theorem op146_107 : rn_op 146 107 = some (.putfield 135, 3, 11, 2, 0) := by decide +kernel
theorem op146_110 : rn_op 146 110 = some (.iinc 4 (-1), 3, 0, 0, 0) := by decide +kernel
theorem op146_113 : rn_op 146 113 = some (.goto (-39), 3, 0, 0, 0) := by decide +kernel
theorem op146_116 : rn_op 146 116 = some (.aload_n 0, 1, 0, 0, 0) := by decide +kernel
theorem op146_117 : rn_op 146 117 = some (.getfield 135, 3, 11, 2, 0) := by decide +kernel
theorem op146_120 : rn_op 146 120 = some (.ireturn, 1, 0, 0, 0) := by decide +kernel
def mo_type_l19 (a1 : Int64) (a3 : Int32) : Nat → Int32 → rn_Mem → Option ((Int32 × rn_Mem) ⊕ (rn_Mem))
  | 0, _, _ => none
  | n + 1, a4, m =>
    if a4 < 0 then
      some (.inr m)
    else
      (mo_in n ((a1 >>> (((8 : Int32) * a4).toInt64 &&& 63)) &&& 255) 32 126 m).bind fun (r8, m7) =>
      if r8 = 0 then
        some (.inl ((-1), m7))
      else
        (some (a4 + (-1))).bind fun (x11 : Int32) =>
        mo_type_l19 a1 a3 n x11 m7
def mo_type_l74 (a1 : Int64) : Nat → Int32 → rn_Mem → Option (rn_Mem)
  | 0, _, _ => none
  | n + 1, a4, m =>
    if a4 < 0 then
      some m
    else
      if rn_in (m.1 115 2) 80 = true then
        (some (rm_i m 117 (m.1 115 2).toNatClampNeg (((a1 >>> (((8 : Int32) * a4).toInt64 &&& 63)) &&& 255).toInt32))).bind fun (m18 : rn_Mem) =>
        (some (rm_i m18 115 2 ((m18.1 115 2) + 1))).bind fun (m20 : rn_Mem) =>
        (some (a4 + (-1))).bind fun (x21 : Int32) =>
        mo_type_l74 a1 n x21 m20
      else none
def mo_type (n : Nat) (a1 : Int64) (a2 : Int32) (m : rn_Mem) : Option (Int32 × rn_Mem) :=
  (mo_in n (a2.toInt64) 1 8 m).bind fun (r2, m1) =>
  if r2 = 0 then
    some ((-1), m1)
  else
    (some (a2 - 1)).bind fun (x5 : Int32) =>
    (mo_type_l19 a1 a2 n x5 m1).bind fun q => match q with
    | .inl o => some o
    | .inr m12 =>
    if 80 < ((m12.1 115 2) + a2) then
      some ((-3), m12)
    else
      (some (a2 - 1)).bind fun (x16 : Int32) =>
      (mo_type_l74 a1 n x16 m12).bind fun m23 =>
      some (m23.1 115 2, m23)
set_option maxHeartbeats 4000000 in
set_option maxRecDepth 20000 in
theorem mo_type_l19_ok (xs : List Int32) {d : Nat} (hd : 1 ≤ d + 1) {a1 : Int64} {a3 : Int32} {r : Option Value} {τ : rn_H} {out : (Int32 × rn_Mem) ⊕ (rn_Mem)} (hl : ∀ (rO : Int32) (mO : rn_Mem), out = .inl (rO, mO) → r = (some (.int rO)) ∧ τ = (rn_SH, mO)) (hr : ∀ (mO : rn_Mem), out = .inr mO → ∀ (o2 o4 : Option Value), rn_R xs (d + 1) 146 55 [some (.ref 115), some (.long a1), o2, some (.int a3), o4] [] (rn_SH, mO) r τ) : ∀ (n : Nat) (a4 : Int32) (o2 : Option Value) (m : rn_Mem), mo_type_l19 a1 a3 n a4 m = some out → rn_R xs (d + 1) 146 19 [some (.ref 115), some (.long a1), o2, some (.int a3), some (.int a4)] [] (rn_SH, m) r τ := by
  intro n
  induction n with
  | zero =>
    intro _ _ _ h
    cases h
  | succ n ih =>
    intro a4 o2 m h
    unfold mo_type_l19 at h
    try dsimp only at h
    refine rx_p (L2 := [some (.ref 115), some (.long a1), o2, some (.int a3), some (.int a4)]) (S2 := [.int a4]) (pc2 := 21) op146_19 rfl rfl ?_
    refine ry_if_lt (tgt := 55) (pc2 := 24) op146_21 (by decide) (by decide) rfl (fun b6 => ?_) (fun b6 => ?_)
    · have h := (if_pos b6).symm.trans h
      cases h
      exact hr _ rfl _ _
    · have h := (if_neg b6).symm.trans h
      refine rx_p (L2 := [some (.ref 115), some (.long a1), o2, some (.int a3), some (.int a4)]) (S2 := [.long a1]) (pc2 := 25) op146_24 rfl rfl ?_
      refine rx_bp (v := 8) (pc2 := 27) op146_25 (by decide) rfl ?_
      refine rx_p (L2 := [some (.ref 115), some (.long a1), o2, some (.int a3), some (.int a4)]) (S2 := [.int a4, .int 8, .long a1]) (pc2 := 29) op146_27 rfl rfl ?_
      refine rx_p (L2 := [some (.ref 115), some (.long a1), o2, some (.int a3), some (.int a4)]) (S2 := [.int ((8 : Int32) * a4), .long a1]) (pc2 := 30) op146_29 rfl rfl ?_
      refine rx_p (L2 := [some (.ref 115), some (.long a1), o2, some (.int a3), some (.int a4)]) (S2 := [.long (a1 >>> (((8 : Int32) * a4).toInt64 &&& 63))]) (pc2 := 31) op146_30 rfl rfl ?_
      refine rx_ld2 (v := 255) (pc2 := 34) op146_31 (by decide) rfl ?_
      refine rx_p (L2 := [some (.ref 115), some (.long a1), o2, some (.int a3), some (.int a4)]) (S2 := [.long ((a1 >>> (((8 : Int32) * a4).toInt64 &&& 63)) &&& 255)]) (pc2 := 35) op146_34 rfl rfl ?_
      refine rx_ld2 (v := 32) (pc2 := 38) op146_35 (by decide) rfl ?_
      refine rx_ld2 (v := 126) (pc2 := 41) op146_38 (by decide) rfl ?_
      obtain ⟨⟨r8, m7⟩, f9, h⟩ := rq_bind h
      try dsimp only at h
      refine ry_is (vs := [.long ((a1 >>> (((8 : Int32) * a4).toInt64 &&& 63)) &&& 255), .long 32, .long 126]) (T := []) (pc2 := 44) op146_41 (by decide) ms_147 (by decide) rfl rfl (Nat.le_of_ble_eq_true rfl) (Nat.le_of_ble_eq_true rfl) (mo_in_ok xs (by omega)  f9) rfl ?_
      show rn_R _ _ _ _ _ [.int r8] _ _ _
      refine ry_if_ne (tgt := 49) (pc2 := 47) op146_44 (by decide) (by decide) rfl (fun b10 => ?_) (fun b10 => ?_)
      · have h := (if_pos b10).symm.trans h
        refine rx_ic (v := (-1)) (pc2 := 48) op146_47 (by decide) rfl ?_
        cases h
        obtain ⟨rfl, rfl⟩ := hl _ _ rfl
        exact ry_ri op146_48 ms_146 rfl
      · have h := (if_neg b10).symm.trans h
        obtain ⟨x11, ex11, h⟩ := rq_bv h
        refine rx_inc (w := (-1)) (v := x11) (L2 := [some (.ref 115), some (.long a1), o2, some (.int a3), some (.int x11)]) (pc2 := 52) op146_49 rfl (by decide) ex11 rfl rfl ?_
        refine ry_go (tgt := 19) op146_52 (by decide) (by decide) ?_
        exact ih _ _ _ h
set_option maxHeartbeats 4000000 in
set_option maxRecDepth 20000 in
theorem mo_type_l74_ok (xs : List Int32) {d : Nat} (hd : 1 ≤ d + 1) {a1 : Int64} {r : Option Value} {τ : rn_H} {out : rn_Mem} (hr : ∀ (mO : rn_Mem), out = mO → ∀ (o1 o2 o3 o4 : Option Value), rn_R xs (d + 1) 146 116 [some (.ref 115), o1, o2, o3, o4] [] (rn_SH, mO) r τ) : ∀ (n : Nat) (a4 : Int32) (o2 o3 : Option Value) (m : rn_Mem), mo_type_l74 a1 n a4 m = some out → rn_R xs (d + 1) 146 74 [some (.ref 115), some (.long a1), o2, o3, some (.int a4)] [] (rn_SH, m) r τ := by
  intro n
  induction n with
  | zero =>
    intro _ _ _ _ h
    cases h
  | succ n ih =>
    intro a4 o2 o3 m h
    unfold mo_type_l74 at h
    try dsimp only at h
    refine rx_p (L2 := [some (.ref 115), some (.long a1), o2, o3, some (.int a4)]) (S2 := [.int a4]) (pc2 := 76) op146_74 rfl rfl ?_
    refine ry_if_lt (tgt := 116) (pc2 := 79) op146_76 (by decide) (by decide) rfl (fun b17 => ?_) (fun b17 => ?_)
    · have h := (if_pos b17).symm.trans h
      cases h
      exact hr _ rfl _ _ _ _
    · have h := (if_neg b17).symm.trans h
      refine rx_p (L2 := [some (.ref 115), some (.long a1), o2, o3, some (.int a4)]) (S2 := [.ref 115]) (pc2 := 80) op146_79 rfl rfl ?_
      refine rx_gf (v := .ref 117) (pc2 := 83) op146_80 sp_115 rfl rfl rfl ?_
      refine rx_p (L2 := [some (.ref 115), some (.long a1), o2, o3, some (.int a4)]) (S2 := [.ref 115, .ref 117]) (pc2 := 84) op146_83 rfl rfl ?_
      refine rx_gf (v := .int (m.1 115 2)) (pc2 := 87) op146_84 sp_115 rfl rfl rfl ?_
      refine rx_p (L2 := [some (.ref 115), some (.long a1), o2, o3, some (.int a4)]) (S2 := [.long a1, .int (m.1 115 2), .ref 117]) (pc2 := 88) op146_87 rfl rfl ?_
      refine rx_bp (v := 8) (pc2 := 90) op146_88 (by decide) rfl ?_
      refine rx_p (L2 := [some (.ref 115), some (.long a1), o2, o3, some (.int a4)]) (S2 := [.int a4, .int 8, .long a1, .int (m.1 115 2), .ref 117]) (pc2 := 92) op146_90 rfl rfl ?_
      refine rx_p (L2 := [some (.ref 115), some (.long a1), o2, o3, some (.int a4)]) (S2 := [.int ((8 : Int32) * a4), .long a1, .int (m.1 115 2), .ref 117]) (pc2 := 93) op146_92 rfl rfl ?_
      refine rx_p (L2 := [some (.ref 115), some (.long a1), o2, o3, some (.int a4)]) (S2 := [.long (a1 >>> (((8 : Int32) * a4).toInt64 &&& 63)), .int (m.1 115 2), .ref 117]) (pc2 := 94) op146_93 rfl rfl ?_
      refine rx_ld2 (v := 255) (pc2 := 97) op146_94 (by decide) rfl ?_
      refine rx_p (L2 := [some (.ref 115), some (.long a1), o2, o3, some (.int a4)]) (S2 := [.long ((a1 >>> (((8 : Int32) * a4).toInt64 &&& 63)) &&& 255), .int (m.1 115 2), .ref 117]) (pc2 := 98) op146_97 rfl rfl ?_
      refine rx_p (L2 := [some (.ref 115), some (.long a1), o2, o3, some (.int a4)]) (S2 := [.int (((a1 >>> (((8 : Int32) * a4).toInt64 &&& 63)) &&& 255).toInt32), .int (m.1 115 2), .ref 117]) (pc2 := 99) op146_98 rfl rfl ?_
      obtain ⟨k19, h⟩ := rq_chk h
      obtain ⟨m18, em18, h⟩ := rq_bv h
      refine rx_is (m2 := m18) (pc2 := 100) op146_99 sp_117 k19 rfl em18 rfl ?_
      refine rx_p (L2 := [some (.ref 115), some (.long a1), o2, o3, some (.int a4)]) (S2 := [.ref 115]) (pc2 := 101) op146_100 rfl rfl ?_
      refine rx_p (L2 := [some (.ref 115), some (.long a1), o2, o3, some (.int a4)]) (S2 := [.ref 115, .ref 115]) (pc2 := 102) op146_101 rfl rfl ?_
      refine rx_gf (v := .int (m18.1 115 2)) (pc2 := 105) op146_102 sp_115 rfl rfl rfl ?_
      refine rx_ic (v := 1) (pc2 := 106) op146_105 (by decide) rfl ?_
      refine rx_p (L2 := [some (.ref 115), some (.long a1), o2, o3, some (.int a4)]) (S2 := [.int ((m18.1 115 2) + 1), .ref 115]) (pc2 := 107) op146_106 rfl rfl ?_
      obtain ⟨m20, em20, h⟩ := rq_bv h
      refine rx_pf (m2 := m20) (pc2 := 110) op146_107 sp_115 rfl em20 rfl ?_
      obtain ⟨x21, ex21, h⟩ := rq_bv h
      refine rx_incd (w := (-1)) (v := x21) (j := 3) (pc2 := 113) op146_110 rfl (by decide) ex21 rfl (fun o22 => ?_)
      show rn_R _ _ _ _ [some (.ref 115), some (.long a1), o2, o22, some (.int x21)] _ _ _ _
      refine ry_go (tgt := 74) op146_113 (by decide) (by decide) ?_
      exact ih _ _ _ _ h
set_option maxHeartbeats 4000000 in
set_option maxRecDepth 20000 in
theorem mo_type_ok (xs : List Int32) {d : Nat} (hd : 1 ≤ d) {n : Nat} {a1 : Int64} {a2 : Int32} {m mO : rn_Mem} {rO : Int32} (h : mo_type n a1 a2 m = some (rO, mO)) : rn_R xs d 146 0 (rn_ent 5 [.ref 115, .long a1, .int a2]) [] (rn_SH, m) (some (.int rO)) (rn_SH, mO) := by
  obtain ⟨d, rfl⟩ : ∃ e, d = e + 1 := ⟨d - 1, by omega⟩
  unfold mo_type at h
  show rn_R xs (d + 1) 146 0 [some (.ref 115), some (.long a1), none, some (.int a2), none] [] (rn_SH, m) (some (.int rO)) (rn_SH, mO)
  refine rx_p (L2 := [some (.ref 115), some (.long a1), none, some (.int a2), none]) (S2 := [.int a2]) (pc2 := 1) op146_0 rfl rfl ?_
  refine rx_p (L2 := [some (.ref 115), some (.long a1), none, some (.int a2), none]) (S2 := [.long (a2.toInt64)]) (pc2 := 2) op146_1 rfl rfl ?_
  refine rx_lc (v := 1) (pc2 := 3) op146_2 (by decide) rfl ?_
  refine rx_ld2 (v := 8) (pc2 := 6) op146_3 (by decide) rfl ?_
  obtain ⟨⟨r2, m1⟩, f3, h⟩ := rq_bind h
  try dsimp only at h
  refine ry_is (vs := [.long (a2.toInt64), .long 1, .long 8]) (T := []) (pc2 := 9) op146_6 (by decide) ms_147 (by decide) rfl rfl (Nat.le_of_ble_eq_true rfl) (Nat.le_of_ble_eq_true rfl) (mo_in_ok xs (by omega)  f3) rfl ?_
  show rn_R _ _ _ _ _ [.int r2] _ _ _
  refine ry_if_ne (tgt := 14) (pc2 := 12) op146_9 (by decide) (by decide) rfl (fun b4 => ?_) (fun b4 => ?_)
  · have h := (if_pos b4).symm.trans h
    refine rx_ic (v := (-1)) (pc2 := 13) op146_12 (by decide) rfl ?_
    obtain ⟨rfl, rfl⟩ := rq_ret h
    exact ry_ri op146_13 ms_146 rfl
  · have h := (if_neg b4).symm.trans h
    refine rx_p (L2 := [some (.ref 115), some (.long a1), none, some (.int a2), none]) (S2 := [.int a2]) (pc2 := 15) op146_14 rfl rfl ?_
    refine rx_ic (v := 1) (pc2 := 16) op146_15 (by decide) rfl ?_
    refine rx_p (L2 := [some (.ref 115), some (.long a1), none, some (.int a2), none]) (S2 := [.int (a2 - 1)]) (pc2 := 17) op146_16 rfl rfl ?_
    obtain ⟨x5, ex5, h⟩ := rq_bv h
    refine rx_s (v := x5) (L2 := [some (.ref 115), some (.long a1), none, some (.int a2), some (.int x5)]) (pc2 := 19) op146_17 ex5 rfl rfl ?_
    obtain ⟨wf29, f29, h⟩ := rq_bind h
    refine mo_type_l19_ok xs hd (fun v0 m0 eq => ?_) (fun m12 eq => ?_) _ _ _ _  f29
    · subst eq
      try dsimp only at h
      cases h
      exact ⟨rfl, rfl⟩
    · subst eq
      try dsimp only at h
      intro o13 o14
      refine rx_p (L2 := [some (.ref 115), some (.long a1), o13, some (.int a2), o14]) (S2 := [.ref 115]) (pc2 := 56) op146_55 rfl rfl ?_
      refine rx_gf (v := .int (m12.1 115 2)) (pc2 := 59) op146_56 sp_115 rfl rfl rfl ?_
      refine rx_p (L2 := [some (.ref 115), some (.long a1), o13, some (.int a2), o14]) (S2 := [.int a2, .int (m12.1 115 2)]) (pc2 := 60) op146_59 rfl rfl ?_
      refine rx_p (L2 := [some (.ref 115), some (.long a1), o13, some (.int a2), o14]) (S2 := [.int ((m12.1 115 2) + a2)]) (pc2 := 61) op146_60 rfl rfl ?_
      refine rx_bp (v := 80) (pc2 := 63) op146_61 (by decide) rfl ?_
      refine ry_ic_le (tgt := 69) (pc2 := 66) op146_63 (by decide) (by decide) rfl (fun b15 => ?_) (fun b15 => ?_)
      · have h := (if_pos b15).symm.trans h
        refine rx_bp (v := (-3)) (pc2 := 68) op146_66 (by decide) rfl ?_
        obtain ⟨rfl, rfl⟩ := rq_ret h
        exact ry_ri op146_68 ms_146 rfl
      · have h := (if_neg b15).symm.trans h
        refine rx_p (L2 := [some (.ref 115), some (.long a1), o13, some (.int a2), o14]) (S2 := [.int a2]) (pc2 := 70) op146_69 rfl rfl ?_
        refine rx_ic (v := 1) (pc2 := 71) op146_70 (by decide) rfl ?_
        refine rx_p (L2 := [some (.ref 115), some (.long a1), o13, some (.int a2), o14]) (S2 := [.int (a2 - 1)]) (pc2 := 72) op146_71 rfl rfl ?_
        obtain ⟨x16, ex16, h⟩ := rq_bv h
        refine rx_s (v := x16) (L2 := [some (.ref 115), some (.long a1), o13, some (.int a2), some (.int x16)]) (pc2 := 74) op146_72 ex16 rfl rfl ?_
        obtain ⟨m23, f28, h⟩ := rq_bind h
        refine mo_type_l74_ok xs hd (fun m0 eq => ?_) _ _ _ _ _  f28
        subst eq
        try dsimp only at h
        intro o24 o25 o26 o27
        refine rx_p (L2 := [some (.ref 115), o24, o25, o26, o27]) (S2 := [.ref 115]) (pc2 := 117) op146_116 rfl rfl ?_
        refine rx_gf (v := .int (m23.1 115 2)) (pc2 := 120) op146_117 sp_115 rfl rfl rfl ?_
        obtain ⟨rfl, rfl⟩ := rq_ret h
        exact ry_ri op146_120 ms_146 rfl
/-! mo_nextByte -/
theorem op152_0 : rn_op 152 0 = some (.aload_n 0, 1, 0, 0, 0) := by decide +kernel
theorem op152_1 : rn_op 152 1 = some (.getfield 139, 3, 11, 3, 0) := by decide +kernel
theorem op152_4 : rn_op 152 4 = some (.aload_n 0, 1, 0, 0, 0) := by decide +kernel
theorem op152_5 : rn_op 152 5 = some (.getfield 135, 3, 11, 2, 0) := by decide +kernel
theorem op152_8 : rn_op 152 8 = some (.if_icmp .ge 30, 3, 0, 0, 0) := by decide +kernel
theorem op152_11 : rn_op 152 11 = some (.aload_n 0, 1, 0, 0, 0) := by decide +kernel
theorem op152_12 : rn_op 152 12 = some (.getfield 13, 3, 11, 1, 3) := by decide +kernel
theorem op152_15 : rn_op 152 15 = some (.aload_n 0, 1, 0, 0, 0) := by decide +kernel
theorem op152_16 : rn_op 152 16 = some (.getfield 139, 3, 11, 3, 0) := by decide +kernel
theorem op152_19 : rn_op 152 19 = some (.iaload, 1, 0, 0, 0) := by decide +kernel
theorem op152_20 : rn_op 152 20 = some (.bipush 32, 2, 0, 0, 0) := by decide +kernel
theorem op152_22 : rn_op 152 22 = some (.if_icmp .ne 16, 3, 0, 0, 0) := by decide +kernel
theorem op152_25 : rn_op 152 25 = some (.aload_n 0, 1, 0, 0, 0) := by decide +kernel
theorem op152_26 : rn_op 152 26 = some (.dup, 1, 0, 0, 0) := by decide +kernel
theorem op152_27 : rn_op 152 27 = some (.getfield 139, 3, 11, 3, 0) := by decide +kernel
theorem op152_30 : rn_op 152 30 = some (.iconst 1, 1, 0, 0, 0) := by decide +kernel
theorem op152_31 : rn_op 152 31 = some (.iadd, 1, 0, 0, 0) := by decide +kernel
theorem op152_32 : rn_op 152 32 = some (.putfield 139, 3, 11, 3, 0) := by decide +kernel
theorem op152_35 : rn_op 152 35 = some (.goto (-35), 3, 0, 0, 0) := by decide +kernel
theorem op152_38 : rn_op 152 38 = some (.aload_n 0, 1, 0, 0, 0) := by decide +kernel
theorem op152_39 : rn_op 152 39 = some (.getfield 139, 3, 11, 3, 0) := by decide +kernel
theorem op152_42 : rn_op 152 42 = some (.aload_n 0, 1, 0, 0, 0) := by decide +kernel
theorem op152_43 : rn_op 152 43 = some (.getfield 135, 3, 11, 2, 0) := by decide +kernel
theorem op152_46 : rn_op 152 46 = some (.if_icmp .ge 15, 3, 0, 0, 0) := by decide +kernel
theorem op152_49 : rn_op 152 49 = some (.aload_n 0, 1, 0, 0, 0) := by decide +kernel
theorem op152_50 : rn_op 152 50 = some (.getfield 13, 3, 11, 1, 3) := by decide +kernel
theorem op152_53 : rn_op 152 53 = some (.aload_n 0, 1, 0, 0, 0) := by decide +kernel
theorem op152_54 : rn_op 152 54 = some (.getfield 139, 3, 11, 3, 0) := by decide +kernel
theorem op152_57 : rn_op 152 57 = some (.iaload, 1, 0, 0, 0) := by decide +kernel
theorem op152_58 : rn_op 152 58 = some (.goto 4, 3, 0, 0, 0) := by decide +kernel
theorem op152_61 : rn_op 152 61 = some (.iconst (-1), 1, 0, 0, 0) := by decide +kernel
theorem op152_62 : rn_op 152 62 = some (.ireturn, 1, 0, 0, 0) := by decide +kernel
def mo_nextByte_l0  : Nat → rn_Mem → Option (rn_Mem)
  | 0, _ => none
  | n + 1, m =>
    if (m.1 115 3) < (m.1 115 2) then
      if rn_in (m.1 115 3) 80 = true then
        if (m.1 117 (m.1 115 3).toNatClampNeg) = 32 then
          (some (rm_i m 115 3 ((m.1 115 3) + 1))).bind fun (m4 : rn_Mem) =>
          mo_nextByte_l0 n m4
        else
          some m
      else none
    else
      some m
def mo_nextByte (n : Nat)  (m : rn_Mem) : Option (Int32 × rn_Mem) :=
  (mo_nextByte_l0 n m).bind fun m5 =>
  if (m5.1 115 3) < (m5.1 115 2) then
    if rn_in (m5.1 115 3) 80 = true then
      some (m5.1 117 (m5.1 115 3).toNatClampNeg, m5)
    else none
  else
    some ((-1), m5)
set_option maxHeartbeats 4000000 in
set_option maxRecDepth 20000 in
theorem mo_nextByte_l0_ok (xs : List Int32) {d : Nat} {r : Option Value} {τ : rn_H} {out : rn_Mem} (hr : ∀ (mO : rn_Mem), out = mO → ∀ (_ : Unit), rn_R xs d 152 38 [some (.ref 115)] [] (rn_SH, mO) r τ) : ∀ (n : Nat) (m : rn_Mem), mo_nextByte_l0 n m = some out → rn_R xs d 152 0 [some (.ref 115)] [] (rn_SH, m) r τ := by
  intro n
  induction n with
  | zero =>
    intro _ h
    cases h
  | succ n ih =>
    intro m h
    unfold mo_nextByte_l0 at h
    try dsimp only at h
    refine rx_p (L2 := [some (.ref 115)]) (S2 := [.ref 115]) (pc2 := 1) op152_0 rfl rfl ?_
    refine rx_gf (v := .int (m.1 115 3)) (pc2 := 4) op152_1 sp_115 rfl rfl rfl ?_
    refine rx_p (L2 := [some (.ref 115)]) (S2 := [.ref 115, .int (m.1 115 3)]) (pc2 := 5) op152_4 rfl rfl ?_
    refine rx_gf (v := .int (m.1 115 2)) (pc2 := 8) op152_5 sp_115 rfl rfl rfl ?_
    refine ry_ic_ge (tgt := 38) (pc2 := 11) op152_8 (by decide) (by decide) rfl (fun b1 => ?_) (fun b1 => ?_)
    · have h := (if_pos b1).symm.trans h
      refine rx_p (L2 := [some (.ref 115)]) (S2 := [.ref 115]) (pc2 := 12) op152_11 rfl rfl ?_
      refine rx_gf (v := .ref 117) (pc2 := 15) op152_12 sp_115 rfl rfl rfl ?_
      refine rx_p (L2 := [some (.ref 115)]) (S2 := [.ref 115, .ref 117]) (pc2 := 16) op152_15 rfl rfl ?_
      refine rx_gf (v := .int (m.1 115 3)) (pc2 := 19) op152_16 sp_115 rfl rfl rfl ?_
      obtain ⟨k2, h⟩ := rq_chk h
      refine rx_ia (pc2 := 20) op152_19 (rn_shlt sp_117) sp_117 k2 rfl rfl ?_
      refine rx_bp (v := 32) (pc2 := 22) op152_20 (by decide) rfl ?_
      refine ry_ic_ne (tgt := 38) (pc2 := 25) op152_22 (by decide) (by decide) rfl (fun b3 => ?_) (fun b3 => ?_)
      · have h := (if_pos b3).symm.trans h
        refine rx_p (L2 := [some (.ref 115)]) (S2 := [.ref 115]) (pc2 := 26) op152_25 rfl rfl ?_
        refine rx_p (L2 := [some (.ref 115)]) (S2 := [.ref 115, .ref 115]) (pc2 := 27) op152_26 rfl rfl ?_
        refine rx_gf (v := .int (m.1 115 3)) (pc2 := 30) op152_27 sp_115 rfl rfl rfl ?_
        refine rx_ic (v := 1) (pc2 := 31) op152_30 (by decide) rfl ?_
        refine rx_p (L2 := [some (.ref 115)]) (S2 := [.int ((m.1 115 3) + 1), .ref 115]) (pc2 := 32) op152_31 rfl rfl ?_
        obtain ⟨m4, em4, h⟩ := rq_bv h
        refine rx_pf (m2 := m4) (pc2 := 35) op152_32 sp_115 rfl em4 rfl ?_
        refine ry_go (tgt := 0) op152_35 (by decide) (by decide) ?_
        exact ih _ h
      · have h := (if_neg b3).symm.trans h
        cases h
        exact hr _ rfl ()
    · have h := (if_neg b1).symm.trans h
      cases h
      exact hr _ rfl ()
set_option maxHeartbeats 4000000 in
set_option maxRecDepth 20000 in
theorem mo_nextByte_ok (xs : List Int32) {d : Nat} (hd : 0 ≤ d) {n : Nat} {m mO : rn_Mem} {rO : Int32} (h : mo_nextByte n  m = some (rO, mO)) : rn_R xs d 152 0 (rn_ent 1 [.ref 115]) [] (rn_SH, m) (some (.int rO)) (rn_SH, mO) := by
  unfold mo_nextByte at h
  show rn_R xs d 152 0 [some (.ref 115)] [] (rn_SH, m) (some (.int rO)) (rn_SH, mO)
  obtain ⟨m5, f8, h⟩ := rq_bind h
  refine mo_nextByte_l0_ok xs (fun m0 eq => ?_) _  _  f8
  subst eq
  try dsimp only at h
  intro _
  refine rx_p (L2 := [some (.ref 115)]) (S2 := [.ref 115]) (pc2 := 39) op152_38 rfl rfl ?_
  refine rx_gf (v := .int (m5.1 115 3)) (pc2 := 42) op152_39 sp_115 rfl rfl rfl ?_
  refine rx_p (L2 := [some (.ref 115)]) (S2 := [.ref 115, .int (m5.1 115 3)]) (pc2 := 43) op152_42 rfl rfl ?_
  refine rx_gf (v := .int (m5.1 115 2)) (pc2 := 46) op152_43 sp_115 rfl rfl rfl ?_
  refine ry_ic_ge (tgt := 61) (pc2 := 49) op152_46 (by decide) (by decide) rfl (fun b6 => ?_) (fun b6 => ?_)
  · have h := (if_pos b6).symm.trans h
    refine rx_p (L2 := [some (.ref 115)]) (S2 := [.ref 115]) (pc2 := 50) op152_49 rfl rfl ?_
    refine rx_gf (v := .ref 117) (pc2 := 53) op152_50 sp_115 rfl rfl rfl ?_
    refine rx_p (L2 := [some (.ref 115)]) (S2 := [.ref 115, .ref 117]) (pc2 := 54) op152_53 rfl rfl ?_
    refine rx_gf (v := .int (m5.1 115 3)) (pc2 := 57) op152_54 sp_115 rfl rfl rfl ?_
    obtain ⟨k7, h⟩ := rq_chk h
    refine rx_ia (pc2 := 58) op152_57 (rn_shlt sp_117) sp_117 k7 rfl rfl ?_
    refine ry_go (tgt := 62) op152_58 (by decide) (by decide) ?_
    obtain ⟨rfl, rfl⟩ := rq_ret h
    exact ry_ri op152_62 ms_152 rfl
  · have h := (if_neg b6).symm.trans h
    refine rx_ic (v := (-1)) (pc2 := 62) op152_61 (by decide) rfl ?_
    obtain ⟨rfl, rfl⟩ := rq_ret h
    exact ry_ri op152_62 ms_152 rfl
/-! mo_takes -/
theorem op151_0 : rn_op 151 0 = some (.aload_n 0, 1, 0, 0, 0) := by decide +kernel
theorem op151_1 : rn_op 151 1 = some (.invokevirtual 142, 3, 152, 1, 11) := by decide +kernel
theorem op151_4 : rn_op 151 4 = some (.iload_n 1, 1, 0, 0, 0) := by decide +kernel
theorem op151_5 : rn_op 151 5 = some (.if_icmp .ne 7, 3, 0, 0, 0) := by decide +kernel
theorem op151_8 : rn_op 151 8 = some (.iconst 1, 1, 0, 0, 0) := by decide +kernel
theorem op151_9 : rn_op 151 9 = some (.goto 4, 3, 0, 0, 0) := by decide +kernel
theorem op151_12 : rn_op 151 12 = some (.iconst 0, 1, 0, 0, 0) := by decide +kernel
theorem op151_13 : rn_op 151 13 = some (.istore_n 2, 1, 0, 0, 0) := by decide +kernel
theorem op151_14 : rn_op 151 14 = some (.aload_n 0, 1, 0, 0, 0) := by decide +kernel
theorem op151_15 : rn_op 151 15 = some (.dup, 1, 0, 0, 0) := by decide +kernel
theorem op151_16 : rn_op 151 16 = some (.getfield 139, 3, 11, 3, 0) := by decide +kernel
theorem op151_19 : rn_op 151 19 = some (.iload_n 2, 1, 0, 0, 0) := by decide +kernel
theorem op151_20 : rn_op 151 20 = some (.ifCond .eq 7, 3, 0, 0, 0) := by decide +kernel
theorem op151_23 : rn_op 151 23 = some (.iconst 1, 1, 0, 0, 0) := by decide +kernel
theorem op151_24 : rn_op 151 24 = some (.goto 4, 3, 0, 0, 0) := by decide +kernel
theorem op151_27 : rn_op 151 27 = some (.iconst 0, 1, 0, 0, 0) := by decide +kernel
theorem op151_28 : rn_op 151 28 = some (.iadd, 1, 0, 0, 0) := by decide +kernel
theorem op151_29 : rn_op 151 29 = some (.putfield 139, 3, 11, 3, 0) := by decide +kernel
theorem op151_32 : rn_op 151 32 = some (.iload_n 2, 1, 0, 0, 0) := by decide +kernel
theorem op151_33 : rn_op 151 33 = some (.ireturn, 1, 0, 0, 0) := by decide +kernel
def mo_takes (n : Nat) (a1 : Int32) (m : rn_Mem) : Option (Int32 × rn_Mem) :=
  (mo_nextByte n m).bind fun (r2, m1) =>
  (show Option (Int32) from
    if r2 = a1 then
      some (1)
    else
      some (0)).bind fun x7 =>
  (show Option (Int32) from
    if x7 = 0 then
      some (0)
    else
      some (1)).bind fun x12 =>
  (some (rm_i m1 115 3 ((m1.1 115 3) + x12))).bind fun (m13 : rn_Mem) =>
  if x7 = 0 ∨ x7 = 1 then
    some (x7, m13)
  else none
set_option maxHeartbeats 4000000 in
set_option maxRecDepth 20000 in
theorem mo_takes_ok (xs : List Int32) {d : Nat} (hd : 1 ≤ d) {n : Nat} {a1 : Int32} {m mO : rn_Mem} {rO : Int32} (h : mo_takes n a1 m = some (rO, mO)) : rn_R xs d 151 0 (rn_ent 3 [.ref 115, .int a1]) [] (rn_SH, m) (some (.int rO)) (rn_SH, mO) := by
  obtain ⟨d, rfl⟩ : ∃ e, d = e + 1 := ⟨d - 1, by omega⟩
  unfold mo_takes at h
  show rn_R xs (d + 1) 151 0 [some (.ref 115), some (.int a1), none] [] (rn_SH, m) (some (.int rO)) (rn_SH, mO)
  refine rx_p (L2 := [some (.ref 115), some (.int a1), none]) (S2 := [.ref 115]) (pc2 := 1) op151_0 rfl rfl ?_
  obtain ⟨⟨r2, m1⟩, f3, h⟩ := rq_bind h
  try dsimp only at h
  refine ry_iv (p := 115) (vs := []) (T := []) (pc2 := 4) op151_1 ms_152 (by decide) rfl rfl (Nat.le_of_ble_eq_true rfl) (Nat.le_of_ble_eq_true rfl) sp_115 (mo_nextByte_ok xs (by omega)  f3) rfl ?_
  show rn_R _ _ _ _ _ [.int r2] _ _ _
  refine rx_p (L2 := [some (.ref 115), some (.int a1), none]) (S2 := [.int a1, .int r2]) (pc2 := 5) op151_4 rfl rfl ?_
  obtain ⟨x7, gc16, h⟩ := rq_bind h
  try dsimp only at h
  have c16 : ∀ (o5 o6 : Option Value), rn_R xs (d + 1) 151 13 [some (.ref 115), o5, o6] [.int x7] (rn_SH, m1) (some (.int rO)) (rn_SH, mO) := by
    intro o5 o6
    refine rx_sd (v := x7) (j := 1) (pc2 := 14) op151_13 rfl rfl (Nat.le_of_ble_eq_true rfl) rfl (fun o8 => ?_)
    show rn_R _ _ _ _ [some (.ref 115), o8, some (.int x7)] _ _ _ _
    refine rx_p (L2 := [some (.ref 115), o8, some (.int x7)]) (S2 := [.ref 115]) (pc2 := 15) op151_14 rfl rfl ?_
    refine rx_p (L2 := [some (.ref 115), o8, some (.int x7)]) (S2 := [.ref 115, .ref 115]) (pc2 := 16) op151_15 rfl rfl ?_
    refine rx_gf (v := .int (m1.1 115 3)) (pc2 := 19) op151_16 sp_115 rfl rfl rfl ?_
    refine rx_p (L2 := [some (.ref 115), o8, some (.int x7)]) (S2 := [.int x7, .int (m1.1 115 3), .ref 115]) (pc2 := 20) op151_19 rfl rfl ?_
    obtain ⟨x12, gc15, h⟩ := rq_bind h
    try dsimp only at h
    have c15 : ∀ (o10 o11 : Option Value), rn_R xs (d + 1) 151 28 [o10, o11, some (.int x7)] [.int x12, .int (m1.1 115 3), .ref 115] (rn_SH, m1) (some (.int rO)) (rn_SH, mO) := by
      intro o10 o11
      refine rx_p (L2 := [o10, o11, some (.int x7)]) (S2 := [.int ((m1.1 115 3) + x12), .ref 115]) (pc2 := 29) op151_28 rfl rfl ?_
      obtain ⟨m13, em13, h⟩ := rq_bv h
      refine rx_pf (m2 := m13) (pc2 := 32) op151_29 sp_115 rfl em13 rfl ?_
      refine rx_p (L2 := [o10, o11, some (.int x7)]) (S2 := [.int x7]) (pc2 := 33) op151_32 rfl rfl ?_
      obtain ⟨k14, h⟩ := rq_chk h
      obtain ⟨rfl, rfl⟩ := rq_ret h
      exact ry_rz (x := x7) op151_33 ms_151 rfl k14
    refine ry_if_eq (tgt := 27) (pc2 := 23) op151_20 (by decide) (by decide) rfl (fun b9 => ?_) (fun b9 => ?_)
    · have gc15 := (if_pos b9).symm.trans gc15
      refine rx_ic (v := 0) (pc2 := 28) op151_27 (by decide) rfl ?_
      cases gc15
      exact c15 _ _
    · have gc15 := (if_neg b9).symm.trans gc15
      refine rx_ic (v := 1) (pc2 := 24) op151_23 (by decide) rfl ?_
      refine ry_go (tgt := 28) op151_24 (by decide) (by decide) ?_
      cases gc15
      exact c15 _ _
  refine ry_ic_ne (tgt := 12) (pc2 := 8) op151_5 (by decide) (by decide) rfl (fun b4 => ?_) (fun b4 => ?_)
  · have gc16 := (if_pos b4).symm.trans gc16
    refine rx_ic (v := 1) (pc2 := 9) op151_8 (by decide) rfl ?_
    refine ry_go (tgt := 13) op151_9 (by decide) (by decide) ?_
    cases gc16
    exact c16 _ _
  · have gc16 := (if_neg b4).symm.trans gc16
    refine rx_ic (v := 0) (pc2 := 13) op151_12 (by decide) rfl ?_
    cases gc16
    exact c16 _ _
/-! mo_readDigit -/
theorem op150_0 : rn_op 150 0 = some (.aload_n 0, 1, 0, 0, 0) := by decide +kernel
theorem op150_1 : rn_op 150 1 = some (.iload_n 1, 1, 0, 0, 0) := by decide +kernel
theorem op150_2 : rn_op 150 2 = some (.invokevirtual 146, 3, 151, 2, 11) := by decide +kernel
theorem op150_5 : rn_op 150 5 = some (.ifCond .ne 5, 3, 0, 0, 0) := by decide +kernel
theorem op150_8 : rn_op 150 8 = some (.iconst (-1), 1, 0, 0, 0) := by decide +kernel
theorem op150_9 : rn_op 150 9 = some (.ireturn, 1, 0, 0, 0) := by decide +kernel
theorem op150_10 : rn_op 150 10 = some (.aload_n 0, 1, 0, 0, 0) := by decide +kernel
theorem op150_11 : rn_op 150 11 = some (.invokevirtual 142, 3, 152, 1, 11) := by decide +kernel
theorem op150_14 : rn_op 150 14 = some (.bipush 48, 2, 0, 0, 0) := by decide +kernel
theorem op150_16 : rn_op 150 16 = some (.isub, 1, 0, 0, 0) := by decide +kernel
theorem op150_17 : rn_op 150 17 = some (.istore 4, 2, 0, 0, 0) := by decide +kernel
theorem op150_19 : rn_op 150 19 = some (.iload 4, 2, 0, 0, 0) := by decide +kernel
theorem op150_21 : rn_op 150 21 = some (.i2l, 1, 0, 0, 0) := by decide +kernel
theorem op150_22 : rn_op 150 22 = some (.iload_n 2, 1, 0, 0, 0) := by decide +kernel
theorem op150_23 : rn_op 150 23 = some (.i2l, 1, 0, 0, 0) := by decide +kernel
theorem op150_24 : rn_op 150 24 = some (.iload_n 3, 1, 0, 0, 0) := by decide +kernel
theorem op150_25 : rn_op 150 25 = some (.i2l, 1, 0, 0, 0) := by decide +kernel
theorem op150_26 : rn_op 150 26 = some (.invokestatic 121, 3, 147, 3, 0) := by decide +kernel
theorem op150_29 : rn_op 150 29 = some (.ifCond .ne 5, 3, 0, 0, 0) := by decide +kernel
theorem op150_32 : rn_op 150 32 = some (.iconst (-1), 1, 0, 0, 0) := by decide +kernel
theorem op150_33 : rn_op 150 33 = some (.ireturn, 1, 0, 0, 0) := by decide +kernel
theorem op150_34 : rn_op 150 34 = some (.aload_n 0, 1, 0, 0, 0) := by decide +kernel
theorem op150_35 : rn_op 150 35 = some (.dup, 1, 0, 0, 0) := by decide +kernel
theorem op150_36 : rn_op 150 36 = some (.getfield 139, 3, 11, 3, 0) := by decide +kernel
theorem op150_39 : rn_op 150 39 = some (.iconst 1, 1, 0, 0, 0) := by decide +kernel
theorem op150_40 : rn_op 150 40 = some (.iadd, 1, 0, 0, 0) := by decide +kernel
theorem op150_41 : rn_op 150 41 = some (.putfield 139, 3, 11, 3, 0) := by decide +kernel
theorem op150_44 : rn_op 150 44 = some (.iload 4, 2, 0, 0, 0) := by decide +kernel
theorem op150_46 : rn_op 150 46 = some (.ireturn, 1, 0, 0, 0) := by decide +kernel
def mo_readDigit (n : Nat) (a1 : Int32) (a2 : Int32) (a3 : Int32) (m : rn_Mem) : Option (Int32 × rn_Mem) :=
  (mo_takes n a1 m).bind fun (r2, m1) =>
  if r2 = 0 then
    some ((-1), m1)
  else
    (mo_nextByte n m1).bind fun (r6, m5) =>
    (some (r6 - 48)).bind fun (x8 : Int32) =>
    (mo_in n (x8.toInt64) (a2.toInt64) (a3.toInt64) m5).bind fun (r10, m9) =>
    if r10 = 0 then
      some ((-1), m9)
    else
      (some (rm_i m9 115 3 ((m9.1 115 3) + 1))).bind fun (m13 : rn_Mem) =>
      some (x8, m13)
set_option maxHeartbeats 4000000 in
set_option maxRecDepth 20000 in
theorem mo_readDigit_ok (xs : List Int32) {d : Nat} (hd : 2 ≤ d) {n : Nat} {a1 : Int32} {a2 : Int32} {a3 : Int32} {m mO : rn_Mem} {rO : Int32} (h : mo_readDigit n a1 a2 a3 m = some (rO, mO)) : rn_R xs d 150 0 (rn_ent 5 [.ref 115, .int a1, .int a2, .int a3]) [] (rn_SH, m) (some (.int rO)) (rn_SH, mO) := by
  obtain ⟨d, rfl⟩ : ∃ e, d = e + 1 := ⟨d - 1, by omega⟩
  unfold mo_readDigit at h
  show rn_R xs (d + 1) 150 0 [some (.ref 115), some (.int a1), some (.int a2), some (.int a3), none] [] (rn_SH, m) (some (.int rO)) (rn_SH, mO)
  refine rx_p (L2 := [some (.ref 115), some (.int a1), some (.int a2), some (.int a3), none]) (S2 := [.ref 115]) (pc2 := 1) op150_0 rfl rfl ?_
  refine rx_p (L2 := [some (.ref 115), some (.int a1), some (.int a2), some (.int a3), none]) (S2 := [.int a1, .ref 115]) (pc2 := 2) op150_1 rfl rfl ?_
  obtain ⟨⟨r2, m1⟩, f3, h⟩ := rq_bind h
  try dsimp only at h
  refine ry_iv (p := 115) (vs := [.int a1]) (T := []) (pc2 := 5) op150_2 ms_151 (by decide) rfl rfl (Nat.le_of_ble_eq_true rfl) (Nat.le_of_ble_eq_true rfl) sp_115 (mo_takes_ok xs (by omega)  f3) rfl ?_
  show rn_R _ _ _ _ _ [.int r2] _ _ _
  refine ry_if_ne (tgt := 10) (pc2 := 8) op150_5 (by decide) (by decide) rfl (fun b4 => ?_) (fun b4 => ?_)
  · have h := (if_pos b4).symm.trans h
    refine rx_ic (v := (-1)) (pc2 := 9) op150_8 (by decide) rfl ?_
    obtain ⟨rfl, rfl⟩ := rq_ret h
    exact ry_ri op150_9 ms_150 rfl
  · have h := (if_neg b4).symm.trans h
    refine rx_p (L2 := [some (.ref 115), some (.int a1), some (.int a2), some (.int a3), none]) (S2 := [.ref 115]) (pc2 := 11) op150_10 rfl rfl ?_
    obtain ⟨⟨r6, m5⟩, f7, h⟩ := rq_bind h
    try dsimp only at h
    refine ry_iv (p := 115) (vs := []) (T := []) (pc2 := 14) op150_11 ms_152 (by decide) rfl rfl (Nat.le_of_ble_eq_true rfl) (Nat.le_of_ble_eq_true rfl) sp_115 (mo_nextByte_ok xs (by omega)  f7) rfl ?_
    show rn_R _ _ _ _ _ [.int r6] _ _ _
    refine rx_bp (v := 48) (pc2 := 16) op150_14 (by decide) rfl ?_
    refine rx_p (L2 := [some (.ref 115), some (.int a1), some (.int a2), some (.int a3), none]) (S2 := [.int (r6 - 48)]) (pc2 := 17) op150_16 rfl rfl ?_
    obtain ⟨x8, ex8, h⟩ := rq_bv h
    refine rx_s (v := x8) (L2 := [some (.ref 115), some (.int a1), some (.int a2), some (.int a3), some (.int x8)]) (pc2 := 19) op150_17 ex8 rfl rfl ?_
    refine rx_p (L2 := [some (.ref 115), some (.int a1), some (.int a2), some (.int a3), some (.int x8)]) (S2 := [.int x8]) (pc2 := 21) op150_19 rfl rfl ?_
    refine rx_p (L2 := [some (.ref 115), some (.int a1), some (.int a2), some (.int a3), some (.int x8)]) (S2 := [.long (x8.toInt64)]) (pc2 := 22) op150_21 rfl rfl ?_
    refine rx_p (L2 := [some (.ref 115), some (.int a1), some (.int a2), some (.int a3), some (.int x8)]) (S2 := [.int a2, .long (x8.toInt64)]) (pc2 := 23) op150_22 rfl rfl ?_
    refine rx_p (L2 := [some (.ref 115), some (.int a1), some (.int a2), some (.int a3), some (.int x8)]) (S2 := [.long (a2.toInt64), .long (x8.toInt64)]) (pc2 := 24) op150_23 rfl rfl ?_
    refine rx_p (L2 := [some (.ref 115), some (.int a1), some (.int a2), some (.int a3), some (.int x8)]) (S2 := [.int a3, .long (a2.toInt64), .long (x8.toInt64)]) (pc2 := 25) op150_24 rfl rfl ?_
    refine rx_p (L2 := [some (.ref 115), some (.int a1), some (.int a2), some (.int a3), some (.int x8)]) (S2 := [.long (a3.toInt64), .long (a2.toInt64), .long (x8.toInt64)]) (pc2 := 26) op150_25 rfl rfl ?_
    obtain ⟨⟨r10, m9⟩, f11, h⟩ := rq_bind h
    try dsimp only at h
    refine ry_is (vs := [.long (x8.toInt64), .long (a2.toInt64), .long (a3.toInt64)]) (T := []) (pc2 := 29) op150_26 (by decide) ms_147 (by decide) rfl rfl (Nat.le_of_ble_eq_true rfl) (Nat.le_of_ble_eq_true rfl) (mo_in_ok xs (by omega)  f11) rfl ?_
    show rn_R _ _ _ _ _ [.int r10] _ _ _
    refine ry_if_ne (tgt := 34) (pc2 := 32) op150_29 (by decide) (by decide) rfl (fun b12 => ?_) (fun b12 => ?_)
    · have h := (if_pos b12).symm.trans h
      refine rx_ic (v := (-1)) (pc2 := 33) op150_32 (by decide) rfl ?_
      obtain ⟨rfl, rfl⟩ := rq_ret h
      exact ry_ri op150_33 ms_150 rfl
    · have h := (if_neg b12).symm.trans h
      refine rx_p (L2 := [some (.ref 115), some (.int a1), some (.int a2), some (.int a3), some (.int x8)]) (S2 := [.ref 115]) (pc2 := 35) op150_34 rfl rfl ?_
      refine rx_p (L2 := [some (.ref 115), some (.int a1), some (.int a2), some (.int a3), some (.int x8)]) (S2 := [.ref 115, .ref 115]) (pc2 := 36) op150_35 rfl rfl ?_
      refine rx_gf (v := .int (m9.1 115 3)) (pc2 := 39) op150_36 sp_115 rfl rfl rfl ?_
      refine rx_ic (v := 1) (pc2 := 40) op150_39 (by decide) rfl ?_
      refine rx_p (L2 := [some (.ref 115), some (.int a1), some (.int a2), some (.int a3), some (.int x8)]) (S2 := [.int ((m9.1 115 3) + 1), .ref 115]) (pc2 := 41) op150_40 rfl rfl ?_
      obtain ⟨m13, em13, h⟩ := rq_bv h
      refine rx_pf (m2 := m13) (pc2 := 44) op150_41 sp_115 rfl em13 rfl ?_
      refine rx_p (L2 := [some (.ref 115), some (.int a1), some (.int a2), some (.int a3), some (.int x8)]) (S2 := [.int x8]) (pc2 := 46) op150_44 rfl rfl ?_
      obtain ⟨rfl, rfl⟩ := rq_ret h
      exact ry_ri op150_46 ms_150 rfl
/-! mo_readSuit -/
theorem op154_0 : rn_op 154 0 = some (.aload_n 0, 1, 0, 0, 0) := by decide +kernel
theorem op154_1 : rn_op 154 1 = some (.invokevirtual 142, 3, 152, 1, 11) := by decide +kernel
theorem op154_4 : rn_op 154 4 = some (.istore_n 1, 1, 0, 0, 0) := by decide +kernel
theorem op154_5 : rn_op 154 5 = some (.iload_n 1, 1, 0, 0, 0) := by decide +kernel
theorem op154_6 : rn_op 154 6 = some (.bipush 115, 2, 0, 0, 0) := by decide +kernel
theorem op154_8 : rn_op 154 8 = some (.if_icmp .ne 7, 3, 0, 0, 0) := by decide +kernel
theorem op154_11 : rn_op 154 11 = some (.iconst 0, 1, 0, 0, 0) := by decide +kernel
theorem op154_12 : rn_op 154 12 = some (.goto 34, 3, 0, 0, 0) := by decide +kernel
theorem op154_15 : rn_op 154 15 = some (.iload_n 1, 1, 0, 0, 0) := by decide +kernel
theorem op154_16 : rn_op 154 16 = some (.bipush 104, 2, 0, 0, 0) := by decide +kernel
theorem op154_18 : rn_op 154 18 = some (.if_icmp .ne 7, 3, 0, 0, 0) := by decide +kernel
theorem op154_21 : rn_op 154 21 = some (.iconst 1, 1, 0, 0, 0) := by decide +kernel
theorem op154_22 : rn_op 154 22 = some (.goto 24, 3, 0, 0, 0) := by decide +kernel
theorem op154_25 : rn_op 154 25 = some (.iload_n 1, 1, 0, 0, 0) := by decide +kernel
theorem op154_26 : rn_op 154 26 = some (.bipush 100, 2, 0, 0, 0) := by decide +kernel
theorem op154_28 : rn_op 154 28 = some (.if_icmp .ne 7, 3, 0, 0, 0) := by decide +kernel
theorem op154_31 : rn_op 154 31 = some (.iconst 2, 1, 0, 0, 0) := by decide +kernel
theorem op154_32 : rn_op 154 32 = some (.goto 14, 3, 0, 0, 0) := by decide +kernel
theorem op154_35 : rn_op 154 35 = some (.iload_n 1, 1, 0, 0, 0) := by decide +kernel
theorem op154_36 : rn_op 154 36 = some (.bipush 99, 2, 0, 0, 0) := by decide +kernel
theorem op154_38 : rn_op 154 38 = some (.if_icmp .ne 7, 3, 0, 0, 0) := by decide +kernel
theorem op154_41 : rn_op 154 41 = some (.iconst 3, 1, 0, 0, 0) := by decide +kernel
theorem op154_42 : rn_op 154 42 = some (.goto 4, 3, 0, 0, 0) := by decide +kernel
theorem op154_45 : rn_op 154 45 = some (.iconst (-1), 1, 0, 0, 0) := by decide +kernel
theorem op154_46 : rn_op 154 46 = some (.istore_n 2, 1, 0, 0, 0) := by decide +kernel
theorem op154_47 : rn_op 154 47 = some (.aload_n 0, 1, 0, 0, 0) := by decide +kernel
theorem op154_48 : rn_op 154 48 = some (.dup, 1, 0, 0, 0) := by decide +kernel
theorem op154_49 : rn_op 154 49 = some (.getfield 139, 3, 11, 3, 0) := by decide +kernel
theorem op154_52 : rn_op 154 52 = some (.iload_n 2, 1, 0, 0, 0) := by decide +kernel
theorem op154_53 : rn_op 154 53 = some (.ifCond .lt 7, 3, 0, 0, 0) := by decide +kernel
theorem op154_56 : rn_op 154 56 = some (.iconst 1, 1, 0, 0, 0) := by decide +kernel
theorem op154_57 : rn_op 154 57 = some (.goto 4, 3, 0, 0, 0) := by decide +kernel
theorem op154_60 : rn_op 154 60 = some (.iconst 0, 1, 0, 0, 0) := by decide +kernel
theorem op154_61 : rn_op 154 61 = some (.iadd, 1, 0, 0, 0) := by decide +kernel
theorem op154_62 : rn_op 154 62 = some (.putfield 139, 3, 11, 3, 0) := by decide +kernel
theorem op154_65 : rn_op 154 65 = some (.iload_n 2, 1, 0, 0, 0) := by decide +kernel
theorem op154_66 : rn_op 154 66 = some (.ireturn, 1, 0, 0, 0) := by decide +kernel
def mo_readSuit (n : Nat)  (m : rn_Mem) : Option (Int32 × rn_Mem) :=
  (mo_nextByte n m).bind fun (r2, m1) =>
  (show Option (Int32) from
    if r2 = 115 then
      some (0)
    else
      if r2 = 104 then
        some (1)
      else
        if r2 = 100 then
          some (2)
        else
          if r2 = 99 then
            some (3)
          else
            some ((-1))).bind fun x10 =>
  (show Option (Int32) from
    if x10 < 0 then
      some (0)
    else
      some (1)).bind fun x15 =>
  (some (rm_i m1 115 3 ((m1.1 115 3) + x15))).bind fun (m16 : rn_Mem) =>
  some (x10, m16)
set_option maxHeartbeats 4000000 in
set_option maxRecDepth 20000 in
theorem mo_readSuit_ok (xs : List Int32) {d : Nat} (hd : 1 ≤ d) {n : Nat} {m mO : rn_Mem} {rO : Int32} (h : mo_readSuit n  m = some (rO, mO)) : rn_R xs d 154 0 (rn_ent 3 [.ref 115]) [] (rn_SH, m) (some (.int rO)) (rn_SH, mO) := by
  obtain ⟨d, rfl⟩ : ∃ e, d = e + 1 := ⟨d - 1, by omega⟩
  unfold mo_readSuit at h
  show rn_R xs (d + 1) 154 0 [some (.ref 115), none, none] [] (rn_SH, m) (some (.int rO)) (rn_SH, mO)
  refine rx_p (L2 := [some (.ref 115), none, none]) (S2 := [.ref 115]) (pc2 := 1) op154_0 rfl rfl ?_
  obtain ⟨⟨r2, m1⟩, f3, h⟩ := rq_bind h
  try dsimp only at h
  refine ry_iv (p := 115) (vs := []) (T := []) (pc2 := 4) op154_1 ms_152 (by decide) rfl rfl (Nat.le_of_ble_eq_true rfl) (Nat.le_of_ble_eq_true rfl) sp_115 (mo_nextByte_ok xs (by omega)  f3) rfl ?_
  show rn_R _ _ _ _ _ [.int r2] _ _ _
  refine rx_s (L2 := [some (.ref 115), some (.int r2), none]) (pc2 := 5) op154_4 rfl rfl rfl ?_
  refine rx_p (L2 := [some (.ref 115), some (.int r2), none]) (S2 := [.int r2]) (pc2 := 6) op154_5 rfl rfl ?_
  refine rx_bp (v := 115) (pc2 := 8) op154_6 (by decide) rfl ?_
  obtain ⟨x10, gc18, h⟩ := rq_bind h
  try dsimp only at h
  have c18 : ∀ (o8 o9 : Option Value), rn_R xs (d + 1) 154 46 [some (.ref 115), o8, o9] [.int x10] (rn_SH, m1) (some (.int rO)) (rn_SH, mO) := by
    intro o8 o9
    refine rx_sd (v := x10) (j := 1) (pc2 := 47) op154_46 rfl rfl (Nat.le_of_ble_eq_true rfl) rfl (fun o11 => ?_)
    show rn_R _ _ _ _ [some (.ref 115), o11, some (.int x10)] _ _ _ _
    refine rx_p (L2 := [some (.ref 115), o11, some (.int x10)]) (S2 := [.ref 115]) (pc2 := 48) op154_47 rfl rfl ?_
    refine rx_p (L2 := [some (.ref 115), o11, some (.int x10)]) (S2 := [.ref 115, .ref 115]) (pc2 := 49) op154_48 rfl rfl ?_
    refine rx_gf (v := .int (m1.1 115 3)) (pc2 := 52) op154_49 sp_115 rfl rfl rfl ?_
    refine rx_p (L2 := [some (.ref 115), o11, some (.int x10)]) (S2 := [.int x10, .int (m1.1 115 3), .ref 115]) (pc2 := 53) op154_52 rfl rfl ?_
    obtain ⟨x15, gc17, h⟩ := rq_bind h
    try dsimp only at h
    have c17 : ∀ (o13 o14 : Option Value), rn_R xs (d + 1) 154 61 [o13, o14, some (.int x10)] [.int x15, .int (m1.1 115 3), .ref 115] (rn_SH, m1) (some (.int rO)) (rn_SH, mO) := by
      intro o13 o14
      refine rx_p (L2 := [o13, o14, some (.int x10)]) (S2 := [.int ((m1.1 115 3) + x15), .ref 115]) (pc2 := 62) op154_61 rfl rfl ?_
      obtain ⟨m16, em16, h⟩ := rq_bv h
      refine rx_pf (m2 := m16) (pc2 := 65) op154_62 sp_115 rfl em16 rfl ?_
      refine rx_p (L2 := [o13, o14, some (.int x10)]) (S2 := [.int x10]) (pc2 := 66) op154_65 rfl rfl ?_
      obtain ⟨rfl, rfl⟩ := rq_ret h
      exact ry_ri op154_66 ms_154 rfl
    refine ry_if_lt (tgt := 60) (pc2 := 56) op154_53 (by decide) (by decide) rfl (fun b12 => ?_) (fun b12 => ?_)
    · have gc17 := (if_pos b12).symm.trans gc17
      refine rx_ic (v := 0) (pc2 := 61) op154_60 (by decide) rfl ?_
      cases gc17
      exact c17 _ _
    · have gc17 := (if_neg b12).symm.trans gc17
      refine rx_ic (v := 1) (pc2 := 57) op154_56 (by decide) rfl ?_
      refine ry_go (tgt := 61) op154_57 (by decide) (by decide) ?_
      cases gc17
      exact c17 _ _
  refine ry_ic_ne (tgt := 15) (pc2 := 11) op154_8 (by decide) (by decide) rfl (fun b4 => ?_) (fun b4 => ?_)
  · have gc18 := (if_pos b4).symm.trans gc18
    refine rx_ic (v := 0) (pc2 := 12) op154_11 (by decide) rfl ?_
    refine ry_go (tgt := 46) op154_12 (by decide) (by decide) ?_
    cases gc18
    exact c18 _ _
  · have gc18 := (if_neg b4).symm.trans gc18
    refine rx_p (L2 := [some (.ref 115), some (.int r2), none]) (S2 := [.int r2]) (pc2 := 16) op154_15 rfl rfl ?_
    refine rx_bp (v := 104) (pc2 := 18) op154_16 (by decide) rfl ?_
    refine ry_ic_ne (tgt := 25) (pc2 := 21) op154_18 (by decide) (by decide) rfl (fun b5 => ?_) (fun b5 => ?_)
    · have gc18 := (if_pos b5).symm.trans gc18
      refine rx_ic (v := 1) (pc2 := 22) op154_21 (by decide) rfl ?_
      refine ry_go (tgt := 46) op154_22 (by decide) (by decide) ?_
      cases gc18
      exact c18 _ _
    · have gc18 := (if_neg b5).symm.trans gc18
      refine rx_p (L2 := [some (.ref 115), some (.int r2), none]) (S2 := [.int r2]) (pc2 := 26) op154_25 rfl rfl ?_
      refine rx_bp (v := 100) (pc2 := 28) op154_26 (by decide) rfl ?_
      refine ry_ic_ne (tgt := 35) (pc2 := 31) op154_28 (by decide) (by decide) rfl (fun b6 => ?_) (fun b6 => ?_)
      · have gc18 := (if_pos b6).symm.trans gc18
        refine rx_ic (v := 2) (pc2 := 32) op154_31 (by decide) rfl ?_
        refine ry_go (tgt := 46) op154_32 (by decide) (by decide) ?_
        cases gc18
        exact c18 _ _
      · have gc18 := (if_neg b6).symm.trans gc18
        refine rx_p (L2 := [some (.ref 115), some (.int r2), none]) (S2 := [.int r2]) (pc2 := 36) op154_35 rfl rfl ?_
        refine rx_bp (v := 99) (pc2 := 38) op154_36 (by decide) rfl ?_
        refine ry_ic_ne (tgt := 45) (pc2 := 41) op154_38 (by decide) (by decide) rfl (fun b7 => ?_) (fun b7 => ?_)
        · have gc18 := (if_pos b7).symm.trans gc18
          refine rx_ic (v := 3) (pc2 := 42) op154_41 (by decide) rfl ?_
          refine ry_go (tgt := 46) op154_42 (by decide) (by decide) ?_
          cases gc18
          exact c18 _ _
        · have gc18 := (if_neg b7).symm.trans gc18
          refine rx_ic (v := (-1)) (pc2 := 46) op154_45 (by decide) rfl ?_
          cases gc18
          exact c18 _ _
/-! mo_readCard -/
theorem op153_0 : rn_op 153 0 = some (.aload_n 0, 1, 0, 0, 0) := by decide +kernel
theorem op153_1 : rn_op 153 1 = some (.invokevirtual 150, 3, 154, 1, 11) := by decide +kernel
theorem op153_4 : rn_op 153 4 = some (.istore_n 2, 1, 0, 0, 0) := by decide +kernel
theorem op153_5 : rn_op 153 5 = some (.iload_n 2, 1, 0, 0, 0) := by decide +kernel
theorem op153_6 : rn_op 153 6 = some (.ifCond .ge 5, 3, 0, 0, 0) := by decide +kernel
theorem op153_9 : rn_op 153 9 = some (.iconst (-1), 1, 0, 0, 0) := by decide +kernel
theorem op153_10 : rn_op 153 10 = some (.ireturn, 1, 0, 0, 0) := by decide +kernel
theorem op153_11 : rn_op 153 11 = some (.aload_n 0, 1, 0, 0, 0) := by decide +kernel
theorem op153_12 : rn_op 153 12 = some (.invokevirtual 142, 3, 152, 1, 11) := by decide +kernel
theorem op153_15 : rn_op 153 15 = some (.bipush 48, 2, 0, 0, 0) := by decide +kernel
theorem op153_17 : rn_op 153 17 = some (.isub, 1, 0, 0, 0) := by decide +kernel
theorem op153_18 : rn_op 153 18 = some (.istore_n 3, 1, 0, 0, 0) := by decide +kernel
theorem op153_19 : rn_op 153 19 = some (.iload_n 3, 1, 0, 0, 0) := by decide +kernel
theorem op153_20 : rn_op 153 20 = some (.i2l, 1, 0, 0, 0) := by decide +kernel
theorem op153_21 : rn_op 153 21 = some (.lconst 0, 1, 0, 0, 0) := by decide +kernel
theorem op153_22 : rn_op 153 22 = some (.ldc2_w 153, 3, 3, 0, 0) := by decide +kernel
theorem op153_25 : rn_op 153 25 = some (.invokestatic 121, 3, 147, 3, 0) := by decide +kernel
theorem op153_28 : rn_op 153 28 = some (.ifCond .eq 15, 3, 0, 0, 0) := by decide +kernel
theorem op153_31 : rn_op 153 31 = some (.iload_n 1, 1, 0, 0, 0) := by decide +kernel
theorem op153_32 : rn_op 153 32 = some (.iconst 4, 1, 0, 0, 0) := by decide +kernel
theorem op153_33 : rn_op 153 33 = some (.iload_n 2, 1, 0, 0, 0) := by decide +kernel
theorem op153_34 : rn_op 153 34 = some (.imul, 1, 0, 0, 0) := by decide +kernel
theorem op153_35 : rn_op 153 35 = some (.iload_n 3, 1, 0, 0, 0) := by decide +kernel
theorem op153_36 : rn_op 153 36 = some (.iadd, 1, 0, 0, 0) := by decide +kernel
theorem op153_37 : rn_op 153 37 = some (.ishr, 1, 0, 0, 0) := by decide +kernel
theorem op153_38 : rn_op 153 38 = some (.iconst 1, 1, 0, 0, 0) := by decide +kernel
theorem op153_39 : rn_op 153 39 = some (.iand, 1, 0, 0, 0) := by decide +kernel
theorem op153_40 : rn_op 153 40 = some (.ifCond .ne 5, 3, 0, 0, 0) := by decide +kernel
theorem op153_43 : rn_op 153 43 = some (.iconst (-1), 1, 0, 0, 0) := by decide +kernel
theorem op153_44 : rn_op 153 44 = some (.ireturn, 1, 0, 0, 0) := by decide +kernel
theorem op153_45 : rn_op 153 45 = some (.aload_n 0, 1, 0, 0, 0) := by decide +kernel
theorem op153_46 : rn_op 153 46 = some (.dup, 1, 0, 0, 0) := by decide +kernel
theorem op153_47 : rn_op 153 47 = some (.getfield 139, 3, 11, 3, 0) := by decide +kernel
theorem op153_50 : rn_op 153 50 = some (.iconst 1, 1, 0, 0, 0) := by decide +kernel
theorem op153_51 : rn_op 153 51 = some (.iadd, 1, 0, 0, 0) := by decide +kernel
theorem op153_52 : rn_op 153 52 = some (.putfield 139, 3, 11, 3, 0) := by decide +kernel
theorem op153_55 : rn_op 153 55 = some (.iconst 4, 1, 0, 0, 0) := by decide +kernel
theorem op153_56 : rn_op 153 56 = some (.iload_n 2, 1, 0, 0, 0) := by decide +kernel
theorem op153_57 : rn_op 153 57 = some (.imul, 1, 0, 0, 0) := by decide +kernel
theorem op153_58 : rn_op 153 58 = some (.iload_n 3, 1, 0, 0, 0) := by decide +kernel
theorem op153_59 : rn_op 153 59 = some (.iadd, 1, 0, 0, 0) := by decide +kernel
theorem op153_60 : rn_op 153 60 = some (.ireturn, 1, 0, 0, 0) := by decide +kernel
def mo_readCard (n : Nat) (a1 : Int32) (m : rn_Mem) : Option (Int32 × rn_Mem) :=
  (mo_readSuit n m).bind fun (r2, m1) =>
  if r2 < 0 then
    some ((-1), m1)
  else
    (mo_nextByte n m1).bind fun (r6, m5) =>
    (some (r6 - 48)).bind fun (x8 : Int32) =>
    (mo_in n (x8.toInt64) 0 3 m5).bind fun (r10, m9) =>
    if r10 = 0 then
      some ((-1), m9)
    else
      if ((a1 >>> ((((4 : Int32) * r2) + x8) &&& 31)) &&& 1) = 0 then
        some ((-1), m9)
      else
        (some (rm_i m9 115 3 ((m9.1 115 3) + 1))).bind fun (m14 : rn_Mem) =>
        some (((4 : Int32) * r2) + x8, m14)
set_option maxHeartbeats 4000000 in
set_option maxRecDepth 20000 in
theorem mo_readCard_ok (xs : List Int32) {d : Nat} (hd : 2 ≤ d) {n : Nat} {a1 : Int32} {m mO : rn_Mem} {rO : Int32} (h : mo_readCard n a1 m = some (rO, mO)) : rn_R xs d 153 0 (rn_ent 4 [.ref 115, .int a1]) [] (rn_SH, m) (some (.int rO)) (rn_SH, mO) := by
  obtain ⟨d, rfl⟩ : ∃ e, d = e + 1 := ⟨d - 1, by omega⟩
  unfold mo_readCard at h
  show rn_R xs (d + 1) 153 0 [some (.ref 115), some (.int a1), none, none] [] (rn_SH, m) (some (.int rO)) (rn_SH, mO)
  refine rx_p (L2 := [some (.ref 115), some (.int a1), none, none]) (S2 := [.ref 115]) (pc2 := 1) op153_0 rfl rfl ?_
  obtain ⟨⟨r2, m1⟩, f3, h⟩ := rq_bind h
  try dsimp only at h
  refine ry_iv (p := 115) (vs := []) (T := []) (pc2 := 4) op153_1 ms_154 (by decide) rfl rfl (Nat.le_of_ble_eq_true rfl) (Nat.le_of_ble_eq_true rfl) sp_115 (mo_readSuit_ok xs (by omega)  f3) rfl ?_
  show rn_R _ _ _ _ _ [.int r2] _ _ _
  refine rx_s (L2 := [some (.ref 115), some (.int a1), some (.int r2), none]) (pc2 := 5) op153_4 rfl rfl rfl ?_
  refine rx_p (L2 := [some (.ref 115), some (.int a1), some (.int r2), none]) (S2 := [.int r2]) (pc2 := 6) op153_5 rfl rfl ?_
  refine ry_if_ge (tgt := 11) (pc2 := 9) op153_6 (by decide) (by decide) rfl (fun b4 => ?_) (fun b4 => ?_)
  · have h := (if_pos b4).symm.trans h
    refine rx_ic (v := (-1)) (pc2 := 10) op153_9 (by decide) rfl ?_
    obtain ⟨rfl, rfl⟩ := rq_ret h
    exact ry_ri op153_10 ms_153 rfl
  · have h := (if_neg b4).symm.trans h
    refine rx_p (L2 := [some (.ref 115), some (.int a1), some (.int r2), none]) (S2 := [.ref 115]) (pc2 := 12) op153_11 rfl rfl ?_
    obtain ⟨⟨r6, m5⟩, f7, h⟩ := rq_bind h
    try dsimp only at h
    refine ry_iv (p := 115) (vs := []) (T := []) (pc2 := 15) op153_12 ms_152 (by decide) rfl rfl (Nat.le_of_ble_eq_true rfl) (Nat.le_of_ble_eq_true rfl) sp_115 (mo_nextByte_ok xs (by omega)  f7) rfl ?_
    show rn_R _ _ _ _ _ [.int r6] _ _ _
    refine rx_bp (v := 48) (pc2 := 17) op153_15 (by decide) rfl ?_
    refine rx_p (L2 := [some (.ref 115), some (.int a1), some (.int r2), none]) (S2 := [.int (r6 - 48)]) (pc2 := 18) op153_17 rfl rfl ?_
    obtain ⟨x8, ex8, h⟩ := rq_bv h
    refine rx_s (v := x8) (L2 := [some (.ref 115), some (.int a1), some (.int r2), some (.int x8)]) (pc2 := 19) op153_18 ex8 rfl rfl ?_
    refine rx_p (L2 := [some (.ref 115), some (.int a1), some (.int r2), some (.int x8)]) (S2 := [.int x8]) (pc2 := 20) op153_19 rfl rfl ?_
    refine rx_p (L2 := [some (.ref 115), some (.int a1), some (.int r2), some (.int x8)]) (S2 := [.long (x8.toInt64)]) (pc2 := 21) op153_20 rfl rfl ?_
    refine rx_lc (v := 0) (pc2 := 22) op153_21 (by decide) rfl ?_
    refine rx_ld2 (v := 3) (pc2 := 25) op153_22 (by decide) rfl ?_
    obtain ⟨⟨r10, m9⟩, f11, h⟩ := rq_bind h
    try dsimp only at h
    refine ry_is (vs := [.long (x8.toInt64), .long 0, .long 3]) (T := []) (pc2 := 28) op153_25 (by decide) ms_147 (by decide) rfl rfl (Nat.le_of_ble_eq_true rfl) (Nat.le_of_ble_eq_true rfl) (mo_in_ok xs (by omega)  f11) rfl ?_
    show rn_R _ _ _ _ _ [.int r10] _ _ _
    refine ry_if_eq (tgt := 43) (pc2 := 31) op153_28 (by decide) (by decide) rfl (fun b12 => ?_) (fun b12 => ?_)
    · have h := (if_pos b12).symm.trans h
      refine rx_ic (v := (-1)) (pc2 := 44) op153_43 (by decide) rfl ?_
      obtain ⟨rfl, rfl⟩ := rq_ret h
      exact ry_ri op153_44 ms_153 rfl
    · have h := (if_neg b12).symm.trans h
      refine rx_p (L2 := [some (.ref 115), some (.int a1), some (.int r2), some (.int x8)]) (S2 := [.int a1]) (pc2 := 32) op153_31 rfl rfl ?_
      refine rx_ic (v := 4) (pc2 := 33) op153_32 (by decide) rfl ?_
      refine rx_p (L2 := [some (.ref 115), some (.int a1), some (.int r2), some (.int x8)]) (S2 := [.int r2, .int 4, .int a1]) (pc2 := 34) op153_33 rfl rfl ?_
      refine rx_p (L2 := [some (.ref 115), some (.int a1), some (.int r2), some (.int x8)]) (S2 := [.int ((4 : Int32) * r2), .int a1]) (pc2 := 35) op153_34 rfl rfl ?_
      refine rx_p (L2 := [some (.ref 115), some (.int a1), some (.int r2), some (.int x8)]) (S2 := [.int x8, .int ((4 : Int32) * r2), .int a1]) (pc2 := 36) op153_35 rfl rfl ?_
      refine rx_p (L2 := [some (.ref 115), some (.int a1), some (.int r2), some (.int x8)]) (S2 := [.int (((4 : Int32) * r2) + x8), .int a1]) (pc2 := 37) op153_36 rfl rfl ?_
      refine rx_p (L2 := [some (.ref 115), some (.int a1), some (.int r2), some (.int x8)]) (S2 := [.int (a1 >>> ((((4 : Int32) * r2) + x8) &&& 31))]) (pc2 := 38) op153_37 rfl rfl ?_
      refine rx_ic (v := 1) (pc2 := 39) op153_38 (by decide) rfl ?_
      refine rx_p (L2 := [some (.ref 115), some (.int a1), some (.int r2), some (.int x8)]) (S2 := [.int ((a1 >>> ((((4 : Int32) * r2) + x8) &&& 31)) &&& 1)]) (pc2 := 40) op153_39 rfl rfl ?_
      refine ry_if_ne (tgt := 45) (pc2 := 43) op153_40 (by decide) (by decide) rfl (fun b13 => ?_) (fun b13 => ?_)
      · have h := (if_pos b13).symm.trans h
        refine rx_ic (v := (-1)) (pc2 := 44) op153_43 (by decide) rfl ?_
        obtain ⟨rfl, rfl⟩ := rq_ret h
        exact ry_ri op153_44 ms_153 rfl
      · have h := (if_neg b13).symm.trans h
        refine rx_p (L2 := [some (.ref 115), some (.int a1), some (.int r2), some (.int x8)]) (S2 := [.ref 115]) (pc2 := 46) op153_45 rfl rfl ?_
        refine rx_p (L2 := [some (.ref 115), some (.int a1), some (.int r2), some (.int x8)]) (S2 := [.ref 115, .ref 115]) (pc2 := 47) op153_46 rfl rfl ?_
        refine rx_gf (v := .int (m9.1 115 3)) (pc2 := 50) op153_47 sp_115 rfl rfl rfl ?_
        refine rx_ic (v := 1) (pc2 := 51) op153_50 (by decide) rfl ?_
        refine rx_p (L2 := [some (.ref 115), some (.int a1), some (.int r2), some (.int x8)]) (S2 := [.int ((m9.1 115 3) + 1), .ref 115]) (pc2 := 52) op153_51 rfl rfl ?_
        obtain ⟨m14, em14, h⟩ := rq_bv h
        refine rx_pf (m2 := m14) (pc2 := 55) op153_52 sp_115 rfl em14 rfl ?_
        refine rx_ic (v := 4) (pc2 := 56) op153_55 (by decide) rfl ?_
        refine rx_p (L2 := [some (.ref 115), some (.int a1), some (.int r2), some (.int x8)]) (S2 := [.int r2, .int 4]) (pc2 := 57) op153_56 rfl rfl ?_
        refine rx_p (L2 := [some (.ref 115), some (.int a1), some (.int r2), some (.int x8)]) (S2 := [.int ((4 : Int32) * r2)]) (pc2 := 58) op153_57 rfl rfl ?_
        refine rx_p (L2 := [some (.ref 115), some (.int a1), some (.int r2), some (.int x8)]) (S2 := [.int x8, .int ((4 : Int32) * r2)]) (pc2 := 59) op153_58 rfl rfl ?_
        refine rx_p (L2 := [some (.ref 115), some (.int a1), some (.int r2), some (.int x8)]) (S2 := [.int (((4 : Int32) * r2) + x8)]) (pc2 := 60) op153_59 rfl rfl ?_
        obtain ⟨rfl, rfl⟩ := rq_ret h
        exact ry_ri op153_60 ms_153 rfl
/-! mo_readGame -/
theorem op149_0 : rn_op 149 0 = some (.aload_n 0, 1, 0, 0, 0) := by decide +kernel
theorem op149_1 : rn_op 149 1 = some (.iconst 0, 1, 0, 0, 0) := by decide +kernel
theorem op149_2 : rn_op 149 2 = some (.putfield 139, 3, 11, 3, 0) := by decide +kernel
theorem op149_5 : rn_op 149 5 = some (.aload_n 0, 1, 0, 0, 0) := by decide +kernel
theorem op149_6 : rn_op 149 6 = some (.getfield 16, 3, 11, 4, 3) := by decide +kernel
theorem op149_9 : rn_op 149 9 = some (.iconst 0, 1, 0, 0, 0) := by decide +kernel
theorem op149_10 : rn_op 149 10 = some (.aload_n 0, 1, 0, 0, 0) := by decide +kernel
theorem op149_11 : rn_op 149 11 = some (.bipush 110, 2, 0, 0, 0) := by decide +kernel
theorem op149_13 : rn_op 149 13 = some (.iconst 2, 1, 0, 0, 0) := by decide +kernel
theorem op149_14 : rn_op 149 14 = some (.iconst 4, 1, 0, 0, 0) := by decide +kernel
theorem op149_15 : rn_op 149 15 = some (.invokevirtual 155, 3, 150, 4, 11) := by decide +kernel
theorem op149_18 : rn_op 149 18 = some (.iastore, 1, 0, 0, 0) := by decide +kernel
theorem op149_19 : rn_op 149 19 = some (.aload_n 0, 1, 0, 0, 0) := by decide +kernel
theorem op149_20 : rn_op 149 20 = some (.getfield 16, 3, 11, 4, 3) := by decide +kernel
theorem op149_23 : rn_op 149 23 = some (.iconst 0, 1, 0, 0, 0) := by decide +kernel
theorem op149_24 : rn_op 149 24 = some (.iaload, 1, 0, 0, 0) := by decide +kernel
theorem op149_25 : rn_op 149 25 = some (.ifCond .ge 5, 3, 0, 0, 0) := by decide +kernel
theorem op149_28 : rn_op 149 28 = some (.iconst 0, 1, 0, 0, 0) := by decide +kernel
theorem op149_29 : rn_op 149 29 = some (.ireturn, 1, 0, 0, 0) := by decide +kernel
theorem op149_30 : rn_op 149 30 = some (.bipush 12, 2, 0, 0, 0) := by decide +kernel
theorem op149_32 : rn_op 149 32 = some (.aload_n 0, 1, 0, 0, 0) := by decide +kernel
theorem op149_33 : rn_op 149 33 = some (.getfield 16, 3, 11, 4, 3) := by decide +kernel
theorem op149_36 : rn_op 149 36 = some (.iconst 0, 1, 0, 0, 0) := by decide +kernel
theorem op149_37 : rn_op 149 37 = some (.iaload, 1, 0, 0, 0) := by decide +kernel
theorem op149_38 : rn_op 149 38 = some (.idiv, 1, 0, 0, 0) := by decide +kernel
theorem op149_39 : rn_op 149 39 = some (.istore_n 1, 1, 0, 0, 0) := by decide +kernel
theorem op149_40 : rn_op 149 40 = some (.aload_n 0, 1, 0, 0, 0) := by decide +kernel
theorem op149_41 : rn_op 149 41 = some (.getfield 16, 3, 11, 4, 3) := by decide +kernel
theorem op149_44 : rn_op 149 44 = some (.iconst 1, 1, 0, 0, 0) := by decide +kernel
theorem op149_45 : rn_op 149 45 = some (.aload_n 0, 1, 0, 0, 0) := by decide +kernel
theorem op149_46 : rn_op 149 46 = some (.bipush 116, 2, 0, 0, 0) := by decide +kernel
theorem op149_48 : rn_op 149 48 = some (.iconst 1, 1, 0, 0, 0) := by decide +kernel
theorem op149_49 : rn_op 149 49 = some (.iload_n 1, 1, 0, 0, 0) := by decide +kernel
theorem op149_50 : rn_op 149 50 = some (.iconst 4, 1, 0, 0, 0) := by decide +kernel
theorem op149_51 : rn_op 149 51 = some (.if_icmp .ge 7, 3, 0, 0, 0) := by decide +kernel
theorem op149_54 : rn_op 149 54 = some (.iload_n 1, 1, 0, 0, 0) := by decide +kernel
theorem op149_55 : rn_op 149 55 = some (.goto 4, 3, 0, 0, 0) := by decide +kernel
theorem op149_58 : rn_op 149 58 = some (.iconst 4, 1, 0, 0, 0) := by decide +kernel
theorem op149_59 : rn_op 149 59 = some (.invokevirtual 155, 3, 150, 4, 11) := by decide +kernel
theorem op149_62 : rn_op 149 62 = some (.iastore, 1, 0, 0, 0) := by decide +kernel
theorem op149_63 : rn_op 149 63 = some (.aload_n 0, 1, 0, 0, 0) := by decide +kernel
theorem op149_64 : rn_op 149 64 = some (.getfield 16, 3, 11, 4, 3) := by decide +kernel
theorem op149_67 : rn_op 149 67 = some (.iconst 1, 1, 0, 0, 0) := by decide +kernel
theorem op149_68 : rn_op 149 68 = some (.iaload, 1, 0, 0, 0) := by decide +kernel
theorem op149_69 : rn_op 149 69 = some (.ifCond .lt 12, 3, 0, 0, 0) := by decide +kernel
theorem op149_72 : rn_op 149 72 = some (.aload_n 0, 1, 0, 0, 0) := by decide +kernel
theorem op149_73 : rn_op 149 73 = some (.bipush 58, 2, 0, 0, 0) := by decide +kernel
theorem op149_75 : rn_op 149 75 = some (.invokevirtual 146, 3, 151, 2, 11) := by decide +kernel
theorem op149_78 : rn_op 149 78 = some (.ifCond .ne 5, 3, 0, 0, 0) := by decide +kernel
theorem op149_81 : rn_op 149 81 = some (.iconst 0, 1, 0, 0, 0) := by decide +kernel
theorem op149_82 : rn_op 149 82 = some (.ireturn, 1, 0, 0, 0) := by decide +kernel
theorem op149_83 : rn_op 149 83 = some (.aload_n 0, 1, 0, 0, 0) := by decide +kernel
theorem op149_84 : rn_op 149 84 = some (.getfield 16, 3, 11, 4, 3) := by decide +kernel
theorem op149_87 : rn_op 149 87 = some (.iconst 2, 1, 0, 0, 0) := by decide +kernel
theorem op149_88 : rn_op 149 88 = some (.iconst 0, 1, 0, 0, 0) := by decide +kernel
theorem op149_89 : rn_op 149 89 = some (.iastore, 1, 0, 0, 0) := by decide +kernel
theorem op149_90 : rn_op 149 90 = some (.iconst 0, 1, 0, 0, 0) := by decide +kernel
theorem op149_91 : rn_op 149 91 = some (.istore_n 2, 1, 0, 0, 0) := by decide +kernel
theorem op149_92 : rn_op 149 92 = some (.iload_n 2, 1, 0, 0, 0) := by decide +kernel
theorem op149_93 : rn_op 149 93 = some (.aload_n 0, 1, 0, 0, 0) := by decide +kernel
theorem op149_94 : rn_op 149 94 = some (.getfield 16, 3, 11, 4, 3) := by decide +kernel
theorem op149_97 : rn_op 149 97 = some (.iconst 0, 1, 0, 0, 0) := by decide +kernel
theorem op149_98 : rn_op 149 98 = some (.iaload, 1, 0, 0, 0) := by decide +kernel
theorem op149_99 : rn_op 149 99 = some (.aload_n 0, 1, 0, 0, 0) := by decide +kernel
theorem op149_100 : rn_op 149 100 = some (.getfield 16, 3, 11, 4, 3) := by decide +kernel
theorem op149_103 : rn_op 149 103 = some (.iconst 1, 1, 0, 0, 0) := by decide +kernel
theorem op149_104 : rn_op 149 104 = some (.iaload, 1, 0, 0, 0) := by decide +kernel
theorem op149_105 : rn_op 149 105 = some (.imul, 1, 0, 0, 0) := by decide +kernel
theorem op149_106 : rn_op 149 106 = some (.if_icmp .ge 40, 3, 0, 0, 0) := by decide +kernel
theorem op149_109 : rn_op 149 109 = some (.aload_n 0, 1, 0, 0, 0) := by decide +kernel
theorem op149_110 : rn_op 149 110 = some (.aload_n 0, 1, 0, 0, 0) := by decide +kernel
theorem op149_111 : rn_op 149 111 = some (.getfield 16, 3, 11, 4, 3) := by decide +kernel
theorem op149_114 : rn_op 149 114 = some (.iconst 2, 1, 0, 0, 0) := by decide +kernel
theorem op149_115 : rn_op 149 115 = some (.iaload, 1, 0, 0, 0) := by decide +kernel
theorem op149_116 : rn_op 149 116 = some (.iconst (-1), 1, 0, 0, 0) := by decide +kernel
theorem op149_117 : rn_op 149 117 = some (.ixor, 1, 0, 0, 0) := by decide +kernel
theorem op149_118 : rn_op 149 118 = some (.invokevirtual 159, 3, 153, 2, 11) := by decide +kernel
theorem op149_121 : rn_op 149 121 = some (.istore_n 3, 1, 0, 0, 0) := by decide +kernel
theorem op149_122 : rn_op 149 122 = some (.iload_n 3, 1, 0, 0, 0) := by decide +kernel
theorem op149_123 : rn_op 149 123 = some (.ifCond .ge 5, 3, 0, 0, 0) := by decide +kernel
theorem op149_126 : rn_op 149 126 = some (.iconst 0, 1, 0, 0, 0) := by decide +kernel
theorem op149_127 : rn_op 149 127 = some (.ireturn, 1, 0, 0, 0) := by decide +kernel
theorem op149_128 : rn_op 149 128 = some (.aload_n 0, 1, 0, 0, 0) := by decide +kernel
theorem op149_129 : rn_op 149 129 = some (.getfield 16, 3, 11, 4, 3) := by decide +kernel
theorem op149_132 : rn_op 149 132 = some (.iconst 2, 1, 0, 0, 0) := by decide +kernel
theorem op149_133 : rn_op 149 133 = some (.dup2, 1, 0, 0, 0) := by decide +kernel
theorem op149_134 : rn_op 149 134 = some (.iaload, 1, 0, 0, 0) := by decide +kernel
theorem op149_135 : rn_op 149 135 = some (.iconst 1, 1, 0, 0, 0) := by decide +kernel
theorem op149_136 : rn_op 149 136 = some (.iload_n 3, 1, 0, 0, 0) := by decide +kernel
theorem op149_137 : rn_op 149 137 = some (.ishl, 1, 0, 0, 0) := by decide +kernel
theorem op149_138 : rn_op 149 138 = some (.ior, 1, 0, 0, 0) := by decide +kernel
theorem op149_139 : rn_op 149 139 = some (.iastore, 1, 0, 0, 0) := by decide +kernel
theorem op149_140 : rn_op 149 140 = some (.iinc 2 1, 3, 0, 0, 0) := by decide +kernel
theorem op149_143 : rn_op 149 143 = some (.goto (-51), 3, 0, 0, 0) := by decide +kernel
theorem op149_146 : rn_op 149 146 = some (.aload_n 0, 1, 0, 0, 0) := by decide +kernel
theorem op149_147 : rn_op 149 147 = some (.getfield 16, 3, 11, 4, 3) := by decide +kernel
theorem op149_150 : rn_op 149 150 = some (.iconst 3, 1, 0, 0, 0) := by decide +kernel
theorem op149_151 : rn_op 149 151 = some (.bipush (-4), 2, 0, 0, 0) := by decide +kernel
theorem op149_153 : rn_op 149 153 = some (.iastore, 1, 0, 0, 0) := by decide +kernel
theorem op149_154 : rn_op 149 154 = some (.aload_n 0, 1, 0, 0, 0) := by decide +kernel
theorem op149_155 : rn_op 149 155 = some (.bipush 45, 2, 0, 0, 0) := by decide +kernel
theorem op149_157 : rn_op 149 157 = some (.invokevirtual 146, 3, 151, 2, 11) := by decide +kernel
theorem op149_160 : rn_op 149 160 = some (.ifCond .ne 35, 3, 0, 0, 0) := by decide +kernel
theorem op149_163 : rn_op 149 163 = some (.aload_n 0, 1, 0, 0, 0) := by decide +kernel
theorem op149_164 : rn_op 149 164 = some (.bipush 43, 2, 0, 0, 0) := by decide +kernel
theorem op149_166 : rn_op 149 166 = some (.invokevirtual 146, 3, 151, 2, 11) := by decide +kernel
theorem op149_169 : rn_op 149 169 = some (.ifCond .ne 5, 3, 0, 0, 0) := by decide +kernel
theorem op149_172 : rn_op 149 172 = some (.iconst 0, 1, 0, 0, 0) := by decide +kernel
theorem op149_173 : rn_op 149 173 = some (.ireturn, 1, 0, 0, 0) := by decide +kernel
theorem op149_174 : rn_op 149 174 = some (.aload_n 0, 1, 0, 0, 0) := by decide +kernel
theorem op149_175 : rn_op 149 175 = some (.getfield 16, 3, 11, 4, 3) := by decide +kernel
theorem op149_178 : rn_op 149 178 = some (.iconst 3, 1, 0, 0, 0) := by decide +kernel
theorem op149_179 : rn_op 149 179 = some (.aload_n 0, 1, 0, 0, 0) := by decide +kernel
theorem op149_180 : rn_op 149 180 = some (.invokevirtual 150, 3, 154, 1, 11) := by decide +kernel
theorem op149_183 : rn_op 149 183 = some (.iastore, 1, 0, 0, 0) := by decide +kernel
theorem op149_184 : rn_op 149 184 = some (.aload_n 0, 1, 0, 0, 0) := by decide +kernel
theorem op149_185 : rn_op 149 185 = some (.getfield 16, 3, 11, 4, 3) := by decide +kernel
theorem op149_188 : rn_op 149 188 = some (.iconst 3, 1, 0, 0, 0) := by decide +kernel
theorem op149_189 : rn_op 149 189 = some (.iaload, 1, 0, 0, 0) := by decide +kernel
theorem op149_190 : rn_op 149 190 = some (.ifCond .ge 5, 3, 0, 0, 0) := by decide +kernel
theorem op149_193 : rn_op 149 193 = some (.iconst 0, 1, 0, 0, 0) := by decide +kernel
theorem op149_194 : rn_op 149 194 = some (.ireturn, 1, 0, 0, 0) := by decide +kernel
theorem op149_195 : rn_op 149 195 = some (.aload_n 0, 1, 0, 0, 0) := by decide +kernel
theorem op149_196 : rn_op 149 196 = some (.getfield 16, 3, 11, 4, 3) := by decide +kernel
theorem op149_199 : rn_op 149 199 = some (.iconst 4, 1, 0, 0, 0) := by decide +kernel
theorem op149_200 : rn_op 149 200 = some (.aload_n 0, 1, 0, 0, 0) := by decide +kernel
theorem op149_201 : rn_op 149 201 = some (.bipush 102, 2, 0, 0, 0) := by decide +kernel
theorem op149_203 : rn_op 149 203 = some (.iconst 0, 1, 0, 0, 0) := by decide +kernel
theorem op149_204 : rn_op 149 204 = some (.iconst 2, 1, 0, 0, 0) := by decide +kernel
theorem op149_205 : rn_op 149 205 = some (.invokevirtual 155, 3, 150, 4, 11) := by decide +kernel
theorem op149_208 : rn_op 149 208 = some (.iastore, 1, 0, 0, 0) := by decide +kernel
theorem op149_209 : rn_op 149 209 = some (.aload_n 0, 1, 0, 0, 0) := by decide +kernel
theorem op149_210 : rn_op 149 210 = some (.getfield 16, 3, 11, 4, 3) := by decide +kernel
theorem op149_213 : rn_op 149 213 = some (.iconst 4, 1, 0, 0, 0) := by decide +kernel
theorem op149_214 : rn_op 149 214 = some (.iaload, 1, 0, 0, 0) := by decide +kernel
theorem op149_215 : rn_op 149 215 = some (.ifCond .ge 5, 3, 0, 0, 0) := by decide +kernel
theorem op149_218 : rn_op 149 218 = some (.iconst 0, 1, 0, 0, 0) := by decide +kernel
theorem op149_219 : rn_op 149 219 = some (.ireturn, 1, 0, 0, 0) := by decide +kernel
theorem op149_220 : rn_op 149 220 = some (.aload_n 0, 1, 0, 0, 0) := by decide +kernel
theorem op149_221 : rn_op 149 221 = some (.getfield 16, 3, 11, 4, 3) := by decide +kernel
theorem op149_224 : rn_op 149 224 = some (.iconst 5, 1, 0, 0, 0) := by decide +kernel
theorem op149_225 : rn_op 149 225 = some (.aload_n 0, 1, 0, 0, 0) := by decide +kernel
theorem op149_226 : rn_op 149 226 = some (.bipush 108, 2, 0, 0, 0) := by decide +kernel
theorem op149_228 : rn_op 149 228 = some (.iconst 0, 1, 0, 0, 0) := by decide +kernel
theorem op149_229 : rn_op 149 229 = some (.iconst 1, 1, 0, 0, 0) := by decide +kernel
theorem op149_230 : rn_op 149 230 = some (.invokevirtual 155, 3, 150, 4, 11) := by decide +kernel
theorem op149_233 : rn_op 149 233 = some (.iastore, 1, 0, 0, 0) := by decide +kernel
theorem op149_234 : rn_op 149 234 = some (.aload_n 0, 1, 0, 0, 0) := by decide +kernel
theorem op149_235 : rn_op 149 235 = some (.getfield 16, 3, 11, 4, 3) := by decide +kernel
theorem op149_238 : rn_op 149 238 = some (.iconst 5, 1, 0, 0, 0) := by decide +kernel
theorem op149_239 : rn_op 149 239 = some (.iaload, 1, 0, 0, 0) := by decide +kernel
theorem op149_240 : rn_op 149 240 = some (.ifCond .ge 5, 3, 0, 0, 0) := by decide +kernel
theorem op149_243 : rn_op 149 243 = some (.iconst 0, 1, 0, 0, 0) := by decide +kernel
theorem op149_244 : rn_op 149 244 = some (.ireturn, 1, 0, 0, 0) := by decide +kernel
theorem op149_245 : rn_op 149 245 = some (.aload_n 0, 1, 0, 0, 0) := by decide +kernel
theorem op149_246 : rn_op 149 246 = some (.getfield 16, 3, 11, 4, 3) := by decide +kernel
theorem op149_249 : rn_op 149 249 = some (.bipush 6, 2, 0, 0, 0) := by decide +kernel
theorem op149_251 : rn_op 149 251 = some (.aload_n 0, 1, 0, 0, 0) := by decide +kernel
theorem op149_252 : rn_op 149 252 = some (.bipush 107, 2, 0, 0, 0) := by decide +kernel
theorem op149_254 : rn_op 149 254 = some (.iconst 0, 1, 0, 0, 0) := by decide +kernel
theorem op149_255 : rn_op 149 255 = some (.iconst 1, 1, 0, 0, 0) := by decide +kernel
theorem op149_256 : rn_op 149 256 = some (.invokevirtual 155, 3, 150, 4, 11) := by decide +kernel
theorem op149_259 : rn_op 149 259 = some (.iastore, 1, 0, 0, 0) := by decide +kernel
theorem op149_260 : rn_op 149 260 = some (.aload_n 0, 1, 0, 0, 0) := by decide +kernel
theorem op149_261 : rn_op 149 261 = some (.getfield 16, 3, 11, 4, 3) := by decide +kernel
theorem op149_264 : rn_op 149 264 = some (.bipush 6, 2, 0, 0, 0) := by decide +kernel
theorem op149_266 : rn_op 149 266 = some (.iaload, 1, 0, 0, 0) := by decide +kernel
theorem op149_267 : rn_op 149 267 = some (.ifCond .lt 12, 3, 0, 0, 0) := by decide +kernel
theorem op149_270 : rn_op 149 270 = some (.aload_n 0, 1, 0, 0, 0) := by decide +kernel
theorem op149_271 : rn_op 149 271 = some (.bipush 98, 2, 0, 0, 0) := by decide +kernel
theorem op149_273 : rn_op 149 273 = some (.invokevirtual 146, 3, 151, 2, 11) := by decide +kernel
theorem op149_276 : rn_op 149 276 = some (.ifCond .ne 5, 3, 0, 0, 0) := by decide +kernel
theorem op149_279 : rn_op 149 279 = some (.iconst 0, 1, 0, 0, 0) := by decide +kernel
theorem op149_280 : rn_op 149 280 = some (.ireturn, 1, 0, 0, 0) := by decide +kernel
theorem op149_281 : rn_op 149 281 = some (.aload_n 0, 1, 0, 0, 0) := by decide +kernel
theorem op149_282 : rn_op 149 282 = some (.getfield 16, 3, 11, 4, 3) := by decide +kernel
theorem op149_285 : rn_op 149 285 = some (.bipush 7, 2, 0, 0, 0) := by decide +kernel
theorem op149_287 : rn_op 149 287 = some (.bipush (-4), 2, 0, 0, 0) := by decide +kernel
theorem op149_289 : rn_op 149 289 = some (.iastore, 1, 0, 0, 0) := by decide +kernel
theorem op149_290 : rn_op 149 290 = some (.aload_n 0, 1, 0, 0, 0) := by decide +kernel
theorem op149_291 : rn_op 149 291 = some (.bipush 63, 2, 0, 0, 0) := by decide +kernel
theorem op149_293 : rn_op 149 293 = some (.invokevirtual 146, 3, 151, 2, 11) := by decide +kernel
theorem op149_296 : rn_op 149 296 = some (.ifCond .ne 49, 3, 0, 0, 0) := by decide +kernel
theorem op149_299 : rn_op 149 299 = some (.aload_n 0, 1, 0, 0, 0) := by decide +kernel
theorem op149_300 : rn_op 149 300 = some (.invokevirtual 142, 3, 152, 1, 11) := by decide +kernel
theorem op149_303 : rn_op 149 303 = some (.bipush 48, 2, 0, 0, 0) := by decide +kernel
theorem op149_305 : rn_op 149 305 = some (.isub, 1, 0, 0, 0) := by decide +kernel
theorem op149_306 : rn_op 149 306 = some (.istore_n 2, 1, 0, 0, 0) := by decide +kernel
theorem op149_307 : rn_op 149 307 = some (.iload_n 2, 1, 0, 0, 0) := by decide +kernel
theorem op149_308 : rn_op 149 308 = some (.i2l, 1, 0, 0, 0) := by decide +kernel
theorem op149_309 : rn_op 149 309 = some (.lconst 0, 1, 0, 0, 0) := by decide +kernel
theorem op149_310 : rn_op 149 310 = some (.aload_n 0, 1, 0, 0, 0) := by decide +kernel
theorem op149_311 : rn_op 149 311 = some (.getfield 16, 3, 11, 4, 3) := by decide +kernel
theorem op149_314 : rn_op 149 314 = some (.iconst 0, 1, 0, 0, 0) := by decide +kernel
theorem op149_315 : rn_op 149 315 = some (.iaload, 1, 0, 0, 0) := by decide +kernel
theorem op149_316 : rn_op 149 316 = some (.iconst 1, 1, 0, 0, 0) := by decide +kernel
theorem op149_317 : rn_op 149 317 = some (.isub, 1, 0, 0, 0) := by decide +kernel
theorem op149_318 : rn_op 149 318 = some (.i2l, 1, 0, 0, 0) := by decide +kernel
theorem op149_319 : rn_op 149 319 = some (.invokestatic 121, 3, 147, 3, 0) := by decide +kernel
theorem op149_322 : rn_op 149 322 = some (.ifCond .ne 5, 3, 0, 0, 0) := by decide +kernel
theorem op149_325 : rn_op 149 325 = some (.iconst 0, 1, 0, 0, 0) := by decide +kernel
theorem op149_326 : rn_op 149 326 = some (.ireturn, 1, 0, 0, 0) := by decide +kernel
theorem op149_327 : rn_op 149 327 = some (.aload_n 0, 1, 0, 0, 0) := by decide +kernel
theorem op149_328 : rn_op 149 328 = some (.dup, 1, 0, 0, 0) := by decide +kernel
theorem op149_329 : rn_op 149 329 = some (.getfield 139, 3, 11, 3, 0) := by decide +kernel
theorem op149_332 : rn_op 149 332 = some (.iconst 1, 1, 0, 0, 0) := by decide +kernel
theorem op149_333 : rn_op 149 333 = some (.iadd, 1, 0, 0, 0) := by decide +kernel
theorem op149_334 : rn_op 149 334 = some (.putfield 139, 3, 11, 3, 0) := by decide +kernel
theorem op149_337 : rn_op 149 337 = some (.aload_n 0, 1, 0, 0, 0) := by decide +kernel
theorem op149_338 : rn_op 149 338 = some (.getfield 16, 3, 11, 4, 3) := by decide +kernel
theorem op149_341 : rn_op 149 341 = some (.bipush 7, 2, 0, 0, 0) := by decide +kernel
theorem op149_343 : rn_op 149 343 = some (.iload_n 2, 1, 0, 0, 0) := by decide +kernel
theorem op149_344 : rn_op 149 344 = some (.iastore, 1, 0, 0, 0) := by decide +kernel
theorem op149_345 : rn_op 149 345 = some (.aload_n 0, 1, 0, 0, 0) := by decide +kernel
theorem op149_346 : rn_op 149 346 = some (.invokevirtual 142, 3, 152, 1, 11) := by decide +kernel
theorem op149_349 : rn_op 149 349 = some (.ifCond .ge 7, 3, 0, 0, 0) := by decide +kernel
theorem op149_352 : rn_op 149 352 = some (.iconst 1, 1, 0, 0, 0) := by decide +kernel
theorem op149_353 : rn_op 149 353 = some (.goto 4, 3, 0, 0, 0) := by decide +kernel
theorem op149_356 : rn_op 149 356 = some (.iconst 0, 1, 0, 0, 0) := by decide +kernel
theorem op149_357 : rn_op 149 357 = some (.ireturn, 1, 0, 0, 0) := by decide +kernel
def mo_readGame_l92  : Nat → Int32 → rn_Mem → Option ((Int32 × rn_Mem) ⊕ (rn_Mem))
  | 0, _, _ => none
  | n + 1, a2, m =>
    if a2 < ((m.1 118 0) * (m.1 118 1)) then
      (mo_readCard n ((m.1 118 2) ^^^ (-1)) m).bind fun (r27, m26) =>
      if r27 < 0 then
        some (.inl (0, m26))
      else
        (some (rm_i m26 118 2 ((m26.1 118 2) ||| ((1 : Int32) <<< (r27 &&& 31))))).bind fun (m30 : rn_Mem) =>
        (some (a2 + 1)).bind fun (x31 : Int32) =>
        mo_readGame_l92 n x31 m30
    else
      some (.inr m)
def mo_readGame (n : Nat)  (m : rn_Mem) : Option (Int32 × rn_Mem) :=
  (some (rm_i m 115 3 0)).bind fun (m1 : rn_Mem) =>
  (mo_readDigit n 110 2 4 m1).bind fun (r3, m2) =>
  (some (rm_i m2 118 0 r3)).bind fun (m5 : rn_Mem) =>
  if (m5.1 118 0) < 0 then
    some (0, m5)
  else
    if ¬ (m5.1 118 0) = 0 then
      (some (12 / (m5.1 118 0))).bind fun (x8 : Int32) =>
      (show Option (Int32) from
        if x8 < 4 then
          some (x8)
        else
          some (4)).bind fun x13 =>
      (mo_readDigit n 116 1 x13 m5).bind fun (r15, m14) =>
      (some (rm_i m14 118 1 r15)).bind fun (m17 : rn_Mem) =>
      if (m17.1 118 1) < 0 then
        some (0, m17)
      else
        (mo_takes n 58 m17).bind fun (r20, m19) =>
        if r20 = 0 then
          some (0, m19)
        else
          (some (rm_i m19 118 2 0)).bind fun (m23 : rn_Mem) =>
          (mo_readGame_l92 n 0 m23).bind fun q => match q with
          | .inl o => some o
          | .inr m33 =>
          (some (rm_i m33 118 3 (-4))).bind fun (m37 : rn_Mem) =>
          (mo_takes n 45 m37).bind fun (r39, m38) =>
          if r39 = 0 then
            (mo_takes n 43 m38).bind fun (r52, m51) =>
            if r52 = 0 then
              some (0, m51)
            else
              (mo_readSuit n m51).bind fun (r56, m55) =>
              (some (rm_i m55 118 3 r56)).bind fun (m58 : rn_Mem) =>
              if (m58.1 118 3) < 0 then
                some (0, m58)
              else
                (mo_readDigit n 102 0 2 m58).bind fun (r61, m60) =>
                (some (rm_i m60 118 4 r61)).bind fun (m63 : rn_Mem) =>
                if (m63.1 118 4) < 0 then
                  some (0, m63)
                else
                  (mo_readDigit n 108 0 1 m63).bind fun (r66, m65) =>
                  (some (rm_i m65 118 5 r66)).bind fun (m68 : rn_Mem) =>
                  if (m68.1 118 5) < 0 then
                    some (0, m68)
                  else
                    (mo_readDigit n 107 0 1 m68).bind fun (r71, m70) =>
                    (some (rm_i m70 118 6 r71)).bind fun (m73 : rn_Mem) =>
                    if (m73.1 118 6) < 0 then
                      some (0, m73)
                    else
                      (mo_takes n 98 m73).bind fun (r76, m75) =>
                      if r76 = 0 then
                        some (0, m75)
                      else
                        (some (rm_i m75 118 7 (-4))).bind fun (m79 : rn_Mem) =>
                        (mo_takes n 63 m79).bind fun (r81, m80) =>
                        if r81 = 0 then
                          (mo_nextByte n m80).bind fun (r96, m95) =>
                          (some (r96 - 48)).bind fun (x99 : Int32) =>
                          (mo_in n (x99.toInt64) 0 (((m95.1 118 0) - 1).toInt64) m95).bind fun (r101, m100) =>
                          if r101 = 0 then
                            some (0, m100)
                          else
                            (some (rm_i m100 115 3 ((m100.1 115 3) + 1))).bind fun (m104 : rn_Mem) =>
                            (some (rm_i m104 118 7 x99)).bind fun (m105 : rn_Mem) =>
                            (mo_nextByte n m105).bind fun (r107, m106) =>
                            if r107 < 0 then
                              some (1, m106)
                            else
                              some (0, m106)
                        else
                          (mo_nextByte n m80).bind fun (r111, m110) =>
                          if r111 < 0 then
                            some (1, m110)
                          else
                            some (0, m110)
          else
            (mo_readDigit n 102 0 2 m38).bind fun (r115, m114) =>
            (some (rm_i m114 118 4 r115)).bind fun (m117 : rn_Mem) =>
            if (m117.1 118 4) < 0 then
              some (0, m117)
            else
              (mo_readDigit n 108 0 1 m117).bind fun (r120, m119) =>
              (some (rm_i m119 118 5 r120)).bind fun (m122 : rn_Mem) =>
              if (m122.1 118 5) < 0 then
                some (0, m122)
              else
                (mo_readDigit n 107 0 1 m122).bind fun (r125, m124) =>
                (some (rm_i m124 118 6 r125)).bind fun (m127 : rn_Mem) =>
                if (m127.1 118 6) < 0 then
                  some (0, m127)
                else
                  (mo_takes n 98 m127).bind fun (r130, m129) =>
                  if r130 = 0 then
                    some (0, m129)
                  else
                    (some (rm_i m129 118 7 (-4))).bind fun (m133 : rn_Mem) =>
                    (mo_takes n 63 m133).bind fun (r135, m134) =>
                    if r135 = 0 then
                      (mo_nextByte n m134).bind fun (r150, m149) =>
                      (some (r150 - 48)).bind fun (x153 : Int32) =>
                      (mo_in n (x153.toInt64) 0 (((m149.1 118 0) - 1).toInt64) m149).bind fun (r155, m154) =>
                      if r155 = 0 then
                        some (0, m154)
                      else
                        (some (rm_i m154 115 3 ((m154.1 115 3) + 1))).bind fun (m158 : rn_Mem) =>
                        (some (rm_i m158 118 7 x153)).bind fun (m159 : rn_Mem) =>
                        (mo_nextByte n m159).bind fun (r161, m160) =>
                        if r161 < 0 then
                          some (1, m160)
                        else
                          some (0, m160)
                    else
                      (mo_nextByte n m134).bind fun (r165, m164) =>
                      if r165 < 0 then
                        some (1, m164)
                      else
                        some (0, m164)
    else none
set_option maxHeartbeats 4000000 in
set_option maxRecDepth 20000 in
theorem mo_readGame_l92_ok (xs : List Int32) {d : Nat} (hd : 3 ≤ d + 1) {r : Option Value} {τ : rn_H} {out : (Int32 × rn_Mem) ⊕ (rn_Mem)} (hl : ∀ (rO : Int32) (mO : rn_Mem), out = .inl (rO, mO) → r = (some (.int rO)) ∧ τ = (rn_SH, mO)) (hr : ∀ (mO : rn_Mem), out = .inr mO → ∀ (o1 o2 o3 : Option Value), rn_R xs (d + 1) 149 146 [some (.ref 115), o1, o2, o3] [] (rn_SH, mO) r τ) : ∀ (n : Nat) (a2 : Int32) (o1 o3 : Option Value) (m : rn_Mem), mo_readGame_l92 n a2 m = some out → rn_R xs (d + 1) 149 92 [some (.ref 115), o1, some (.int a2), o3] [] (rn_SH, m) r τ := by
  intro n
  induction n with
  | zero =>
    intro _ _ _ _ h
    cases h
  | succ n ih =>
    intro a2 o1 o3 m h
    unfold mo_readGame_l92 at h
    try dsimp only at h
    refine rx_p (L2 := [some (.ref 115), o1, some (.int a2), o3]) (S2 := [.int a2]) (pc2 := 93) op149_92 rfl rfl ?_
    refine rx_p (L2 := [some (.ref 115), o1, some (.int a2), o3]) (S2 := [.ref 115, .int a2]) (pc2 := 94) op149_93 rfl rfl ?_
    refine rx_gf (v := .ref 118) (pc2 := 97) op149_94 sp_115 rfl rfl rfl ?_
    refine rx_ic (v := 0) (pc2 := 98) op149_97 (by decide) rfl ?_
    refine rx_ia (j := 0) (pc2 := 99) op149_98 (rn_shlt sp_118) sp_118 (by decide) (by decide) rfl ?_
    refine rx_p (L2 := [some (.ref 115), o1, some (.int a2), o3]) (S2 := [.ref 115, .int (m.1 118 0), .int a2]) (pc2 := 100) op149_99 rfl rfl ?_
    refine rx_gf (v := .ref 118) (pc2 := 103) op149_100 sp_115 rfl rfl rfl ?_
    refine rx_ic (v := 1) (pc2 := 104) op149_103 (by decide) rfl ?_
    refine rx_ia (j := 1) (pc2 := 105) op149_104 (rn_shlt sp_118) sp_118 (by decide) (by decide) rfl ?_
    refine rx_p (L2 := [some (.ref 115), o1, some (.int a2), o3]) (S2 := [.int ((m.1 118 0) * (m.1 118 1)), .int a2]) (pc2 := 106) op149_105 rfl rfl ?_
    refine ry_ic_ge (tgt := 146) (pc2 := 109) op149_106 (by decide) (by decide) rfl (fun b25 => ?_) (fun b25 => ?_)
    · have h := (if_pos b25).symm.trans h
      refine rx_p (L2 := [some (.ref 115), o1, some (.int a2), o3]) (S2 := [.ref 115]) (pc2 := 110) op149_109 rfl rfl ?_
      refine rx_p (L2 := [some (.ref 115), o1, some (.int a2), o3]) (S2 := [.ref 115, .ref 115]) (pc2 := 111) op149_110 rfl rfl ?_
      refine rx_gf (v := .ref 118) (pc2 := 114) op149_111 sp_115 rfl rfl rfl ?_
      refine rx_ic (v := 2) (pc2 := 115) op149_114 (by decide) rfl ?_
      refine rx_ia (j := 2) (pc2 := 116) op149_115 (rn_shlt sp_118) sp_118 (by decide) (by decide) rfl ?_
      refine rx_ic (v := (-1)) (pc2 := 117) op149_116 (by decide) rfl ?_
      refine rx_p (L2 := [some (.ref 115), o1, some (.int a2), o3]) (S2 := [.int ((m.1 118 2) ^^^ (-1)), .ref 115]) (pc2 := 118) op149_117 rfl rfl ?_
      obtain ⟨⟨r27, m26⟩, f28, h⟩ := rq_bind h
      try dsimp only at h
      refine ry_iv (p := 115) (vs := [.int ((m.1 118 2) ^^^ (-1))]) (T := []) (pc2 := 121) op149_118 ms_153 (by decide) rfl rfl (Nat.le_of_ble_eq_true rfl) (Nat.le_of_ble_eq_true rfl) sp_115 (mo_readCard_ok xs (by omega)  f28) rfl ?_
      show rn_R _ _ _ _ _ [.int r27] _ _ _
      refine rx_s (L2 := [some (.ref 115), o1, some (.int a2), some (.int r27)]) (pc2 := 122) op149_121 rfl rfl rfl ?_
      refine rx_p (L2 := [some (.ref 115), o1, some (.int a2), some (.int r27)]) (S2 := [.int r27]) (pc2 := 123) op149_122 rfl rfl ?_
      refine ry_if_ge (tgt := 128) (pc2 := 126) op149_123 (by decide) (by decide) rfl (fun b29 => ?_) (fun b29 => ?_)
      · have h := (if_pos b29).symm.trans h
        refine rx_ic (v := 0) (pc2 := 127) op149_126 (by decide) rfl ?_
        cases h
        obtain ⟨rfl, rfl⟩ := hl _ _ rfl
        exact ry_rz (x := 0) op149_127 ms_149 rfl (by decide)
      · have h := (if_neg b29).symm.trans h
        refine rx_p (L2 := [some (.ref 115), o1, some (.int a2), some (.int r27)]) (S2 := [.ref 115]) (pc2 := 129) op149_128 rfl rfl ?_
        refine rx_gf (v := .ref 118) (pc2 := 132) op149_129 sp_115 rfl rfl rfl ?_
        refine rx_ic (v := 2) (pc2 := 133) op149_132 (by decide) rfl ?_
        refine rx_p (L2 := [some (.ref 115), o1, some (.int a2), some (.int r27)]) (S2 := [.int 2, .ref 118, .int 2, .ref 118]) (pc2 := 134) op149_133 rfl rfl ?_
        refine rx_ia (j := 2) (pc2 := 135) op149_134 (rn_shlt sp_118) sp_118 (by decide) (by decide) rfl ?_
        refine rx_ic (v := 1) (pc2 := 136) op149_135 (by decide) rfl ?_
        refine rx_p (L2 := [some (.ref 115), o1, some (.int a2), some (.int r27)]) (S2 := [.int r27, .int 1, .int (m26.1 118 2), .int 2, .ref 118]) (pc2 := 137) op149_136 rfl rfl ?_
        refine rx_p (L2 := [some (.ref 115), o1, some (.int a2), some (.int r27)]) (S2 := [.int ((1 : Int32) <<< (r27 &&& 31)), .int (m26.1 118 2), .int 2, .ref 118]) (pc2 := 138) op149_137 rfl rfl ?_
        refine rx_p (L2 := [some (.ref 115), o1, some (.int a2), some (.int r27)]) (S2 := [.int ((m26.1 118 2) ||| ((1 : Int32) <<< (r27 &&& 31))), .int 2, .ref 118]) (pc2 := 139) op149_138 rfl rfl ?_
        obtain ⟨m30, em30, h⟩ := rq_bv h
        refine rx_is (j := 2) (m2 := m30) (pc2 := 140) op149_139 sp_118 (by decide) (by decide) em30 rfl ?_
        obtain ⟨x31, ex31, h⟩ := rq_bv h
        refine rx_incd (w := 1) (v := x31) (j := 1) (pc2 := 143) op149_140 rfl (by decide) ex31 rfl (fun o32 => ?_)
        show rn_R _ _ _ _ [some (.ref 115), o32, some (.int x31), some (.int r27)] _ _ _ _
        refine ry_go (tgt := 92) op149_143 (by decide) (by decide) ?_
        exact ih _ _ _ _ h
    · have h := (if_neg b25).symm.trans h
      cases h
      exact hr _ rfl _ _ _
set_option maxHeartbeats 4000000 in
set_option maxRecDepth 20000 in
theorem mo_readGame_ok (xs : List Int32) {d : Nat} (hd : 3 ≤ d) {n : Nat} {m mO : rn_Mem} {rO : Int32} (h : mo_readGame n  m = some (rO, mO)) : rn_R xs d 149 0 (rn_ent 4 [.ref 115]) [] (rn_SH, m) (some (.int rO)) (rn_SH, mO) := by
  obtain ⟨d, rfl⟩ : ∃ e, d = e + 1 := ⟨d - 1, by omega⟩
  unfold mo_readGame at h
  show rn_R xs (d + 1) 149 0 [some (.ref 115), none, none, none] [] (rn_SH, m) (some (.int rO)) (rn_SH, mO)
  refine rx_p (L2 := [some (.ref 115), none, none, none]) (S2 := [.ref 115]) (pc2 := 1) op149_0 rfl rfl ?_
  refine rx_ic (v := 0) (pc2 := 2) op149_1 (by decide) rfl ?_
  obtain ⟨m1, em1, h⟩ := rq_bv h
  refine rx_pf (m2 := m1) (pc2 := 5) op149_2 sp_115 rfl em1 rfl ?_
  refine rx_p (L2 := [some (.ref 115), none, none, none]) (S2 := [.ref 115]) (pc2 := 6) op149_5 rfl rfl ?_
  refine rx_gf (v := .ref 118) (pc2 := 9) op149_6 sp_115 rfl rfl rfl ?_
  refine rx_ic (v := 0) (pc2 := 10) op149_9 (by decide) rfl ?_
  refine rx_p (L2 := [some (.ref 115), none, none, none]) (S2 := [.ref 115, .int 0, .ref 118]) (pc2 := 11) op149_10 rfl rfl ?_
  refine rx_bp (v := 110) (pc2 := 13) op149_11 (by decide) rfl ?_
  refine rx_ic (v := 2) (pc2 := 14) op149_13 (by decide) rfl ?_
  refine rx_ic (v := 4) (pc2 := 15) op149_14 (by decide) rfl ?_
  obtain ⟨⟨r3, m2⟩, f4, h⟩ := rq_bind h
  try dsimp only at h
  refine ry_iv (p := 115) (vs := [.int 110, .int 2, .int 4]) (T := [.int 0, .ref 118]) (pc2 := 18) op149_15 ms_150 (by decide) rfl rfl (Nat.le_of_ble_eq_true rfl) (Nat.le_of_ble_eq_true rfl) sp_115 (mo_readDigit_ok xs (by omega)  f4) rfl ?_
  show rn_R _ _ _ _ _ [.int r3, .int 0, .ref 118] _ _ _
  obtain ⟨m5, em5, h⟩ := rq_bv h
  refine rx_is (j := 0) (m2 := m5) (pc2 := 19) op149_18 sp_118 (by decide) (by decide) em5 rfl ?_
  refine rx_p (L2 := [some (.ref 115), none, none, none]) (S2 := [.ref 115]) (pc2 := 20) op149_19 rfl rfl ?_
  refine rx_gf (v := .ref 118) (pc2 := 23) op149_20 sp_115 rfl rfl rfl ?_
  refine rx_ic (v := 0) (pc2 := 24) op149_23 (by decide) rfl ?_
  refine rx_ia (j := 0) (pc2 := 25) op149_24 (rn_shlt sp_118) sp_118 (by decide) (by decide) rfl ?_
  refine ry_if_ge (tgt := 30) (pc2 := 28) op149_25 (by decide) (by decide) rfl (fun b6 => ?_) (fun b6 => ?_)
  · have h := (if_pos b6).symm.trans h
    refine rx_ic (v := 0) (pc2 := 29) op149_28 (by decide) rfl ?_
    obtain ⟨rfl, rfl⟩ := rq_ret h
    exact ry_rz (x := 0) op149_29 ms_149 rfl (by decide)
  · have h := (if_neg b6).symm.trans h
    refine rx_bp (v := 12) (pc2 := 32) op149_30 (by decide) rfl ?_
    refine rx_p (L2 := [some (.ref 115), none, none, none]) (S2 := [.ref 115, .int 12]) (pc2 := 33) op149_32 rfl rfl ?_
    refine rx_gf (v := .ref 118) (pc2 := 36) op149_33 sp_115 rfl rfl rfl ?_
    refine rx_ic (v := 0) (pc2 := 37) op149_36 (by decide) rfl ?_
    refine rx_ia (j := 0) (pc2 := 38) op149_37 (rn_shlt sp_118) sp_118 (by decide) (by decide) rfl ?_
    obtain ⟨k7, h⟩ := rq_chk h
    refine rx_div (v := 12 / (m5.1 118 0)) (pc2 := 39) op149_38 k7 rfl rfl ?_
    obtain ⟨x8, ex8, h⟩ := rq_bv h
    refine rx_s (v := x8) (L2 := [some (.ref 115), some (.int x8), none, none]) (pc2 := 40) op149_39 ex8 rfl rfl ?_
    refine rx_p (L2 := [some (.ref 115), some (.int x8), none, none]) (S2 := [.ref 115]) (pc2 := 41) op149_40 rfl rfl ?_
    refine rx_gf (v := .ref 118) (pc2 := 44) op149_41 sp_115 rfl rfl rfl ?_
    refine rx_ic (v := 1) (pc2 := 45) op149_44 (by decide) rfl ?_
    refine rx_p (L2 := [some (.ref 115), some (.int x8), none, none]) (S2 := [.ref 115, .int 1, .ref 118]) (pc2 := 46) op149_45 rfl rfl ?_
    refine rx_bp (v := 116) (pc2 := 48) op149_46 (by decide) rfl ?_
    refine rx_ic (v := 1) (pc2 := 49) op149_48 (by decide) rfl ?_
    refine rx_p (L2 := [some (.ref 115), some (.int x8), none, none]) (S2 := [.int x8, .int 1, .int 116, .ref 115, .int 1, .ref 118]) (pc2 := 50) op149_49 rfl rfl ?_
    refine rx_ic (v := 4) (pc2 := 51) op149_50 (by decide) rfl ?_
    obtain ⟨x13, gc169, h⟩ := rq_bind h
    try dsimp only at h
    have c169 : ∀ (o10 o11 o12 : Option Value), rn_R xs (d + 1) 149 59 [some (.ref 115), o10, o11, o12] [.int x13, .int 1, .int 116, .ref 115, .int 1, .ref 118] (rn_SH, m5) (some (.int rO)) (rn_SH, mO) := by
      intro o10 o11 o12
      obtain ⟨⟨r15, m14⟩, f16, h⟩ := rq_bind h
      try dsimp only at h
      refine ry_iv (p := 115) (vs := [.int 116, .int 1, .int x13]) (T := [.int 1, .ref 118]) (pc2 := 62) op149_59 ms_150 (by decide) rfl rfl (Nat.le_of_ble_eq_true rfl) (Nat.le_of_ble_eq_true rfl) sp_115 (mo_readDigit_ok xs (by omega)  f16) rfl ?_
      show rn_R _ _ _ _ _ [.int r15, .int 1, .ref 118] _ _ _
      obtain ⟨m17, em17, h⟩ := rq_bv h
      refine rx_is (j := 1) (m2 := m17) (pc2 := 63) op149_62 sp_118 (by decide) (by decide) em17 rfl ?_
      refine rx_p (L2 := [some (.ref 115), o10, o11, o12]) (S2 := [.ref 115]) (pc2 := 64) op149_63 rfl rfl ?_
      refine rx_gf (v := .ref 118) (pc2 := 67) op149_64 sp_115 rfl rfl rfl ?_
      refine rx_ic (v := 1) (pc2 := 68) op149_67 (by decide) rfl ?_
      refine rx_ia (j := 1) (pc2 := 69) op149_68 (rn_shlt sp_118) sp_118 (by decide) (by decide) rfl ?_
      refine ry_if_lt (tgt := 81) (pc2 := 72) op149_69 (by decide) (by decide) rfl (fun b18 => ?_) (fun b18 => ?_)
      · have h := (if_pos b18).symm.trans h
        refine rx_ic (v := 0) (pc2 := 82) op149_81 (by decide) rfl ?_
        obtain ⟨rfl, rfl⟩ := rq_ret h
        exact ry_rz (x := 0) op149_82 ms_149 rfl (by decide)
      · have h := (if_neg b18).symm.trans h
        refine rx_p (L2 := [some (.ref 115), o10, o11, o12]) (S2 := [.ref 115]) (pc2 := 73) op149_72 rfl rfl ?_
        refine rx_bp (v := 58) (pc2 := 75) op149_73 (by decide) rfl ?_
        obtain ⟨⟨r20, m19⟩, f21, h⟩ := rq_bind h
        try dsimp only at h
        refine ry_iv (p := 115) (vs := [.int 58]) (T := []) (pc2 := 78) op149_75 ms_151 (by decide) rfl rfl (Nat.le_of_ble_eq_true rfl) (Nat.le_of_ble_eq_true rfl) sp_115 (mo_takes_ok xs (by omega)  f21) rfl ?_
        show rn_R _ _ _ _ _ [.int r20] _ _ _
        refine ry_if_ne (tgt := 83) (pc2 := 81) op149_78 (by decide) (by decide) rfl (fun b22 => ?_) (fun b22 => ?_)
        · have h := (if_pos b22).symm.trans h
          refine rx_ic (v := 0) (pc2 := 82) op149_81 (by decide) rfl ?_
          obtain ⟨rfl, rfl⟩ := rq_ret h
          exact ry_rz (x := 0) op149_82 ms_149 rfl (by decide)
        · have h := (if_neg b22).symm.trans h
          refine rx_p (L2 := [some (.ref 115), o10, o11, o12]) (S2 := [.ref 115]) (pc2 := 84) op149_83 rfl rfl ?_
          refine rx_gf (v := .ref 118) (pc2 := 87) op149_84 sp_115 rfl rfl rfl ?_
          refine rx_ic (v := 2) (pc2 := 88) op149_87 (by decide) rfl ?_
          refine rx_ic (v := 0) (pc2 := 89) op149_88 (by decide) rfl ?_
          obtain ⟨m23, em23, h⟩ := rq_bv h
          refine rx_is (j := 2) (m2 := m23) (pc2 := 90) op149_89 sp_118 (by decide) (by decide) em23 rfl ?_
          refine rx_ic (v := 0) (pc2 := 91) op149_90 (by decide) rfl ?_
          refine rx_sd (v := 0) (j := 1) (pc2 := 92) op149_91 rfl rfl (Nat.le_of_ble_eq_true rfl) rfl (fun o24 => ?_)
          show rn_R _ _ _ _ [some (.ref 115), o24, some (.int 0), o12] _ _ _ _
          obtain ⟨wf168, f168, h⟩ := rq_bind h
          refine mo_readGame_l92_ok xs hd (fun v0 m0 eq => ?_) (fun m33 eq => ?_) _ _ _ _ _  f168
          · subst eq
            try dsimp only at h
            cases h
            exact ⟨rfl, rfl⟩
          · subst eq
            try dsimp only at h
            intro o34 o35 o36
            refine rx_p (L2 := [some (.ref 115), o34, o35, o36]) (S2 := [.ref 115]) (pc2 := 147) op149_146 rfl rfl ?_
            refine rx_gf (v := .ref 118) (pc2 := 150) op149_147 sp_115 rfl rfl rfl ?_
            refine rx_ic (v := 3) (pc2 := 151) op149_150 (by decide) rfl ?_
            refine rx_bp (v := (-4)) (pc2 := 153) op149_151 (by decide) rfl ?_
            obtain ⟨m37, em37, h⟩ := rq_bv h
            refine rx_is (j := 3) (m2 := m37) (pc2 := 154) op149_153 sp_118 (by decide) (by decide) em37 rfl ?_
            refine rx_p (L2 := [some (.ref 115), o34, o35, o36]) (S2 := [.ref 115]) (pc2 := 155) op149_154 rfl rfl ?_
            refine rx_bp (v := 45) (pc2 := 157) op149_155 (by decide) rfl ?_
            obtain ⟨⟨r39, m38⟩, f40, h⟩ := rq_bind h
            try dsimp only at h
            refine ry_iv (p := 115) (vs := [.int 45]) (T := []) (pc2 := 160) op149_157 ms_151 (by decide) rfl rfl (Nat.le_of_ble_eq_true rfl) (Nat.le_of_ble_eq_true rfl) sp_115 (mo_takes_ok xs (by omega)  f40) rfl ?_
            show rn_R _ _ _ _ _ [.int r39] _ _ _
            refine ry_if_ne (tgt := 195) (pc2 := 163) op149_160 (by decide) (by decide) rfl (fun b41 => ?_) (fun b41 => ?_)
            · have h := (if_pos b41).symm.trans h
              refine rx_p (L2 := [some (.ref 115), o34, o35, o36]) (S2 := [.ref 115]) (pc2 := 164) op149_163 rfl rfl ?_
              refine rx_bp (v := 43) (pc2 := 166) op149_164 (by decide) rfl ?_
              obtain ⟨⟨r52, m51⟩, f53, h⟩ := rq_bind h
              try dsimp only at h
              refine ry_iv (p := 115) (vs := [.int 43]) (T := []) (pc2 := 169) op149_166 ms_151 (by decide) rfl rfl (Nat.le_of_ble_eq_true rfl) (Nat.le_of_ble_eq_true rfl) sp_115 (mo_takes_ok xs (by omega)  f53) rfl ?_
              show rn_R _ _ _ _ _ [.int r52] _ _ _
              refine ry_if_ne (tgt := 174) (pc2 := 172) op149_169 (by decide) (by decide) rfl (fun b54 => ?_) (fun b54 => ?_)
              · have h := (if_pos b54).symm.trans h
                refine rx_ic (v := 0) (pc2 := 173) op149_172 (by decide) rfl ?_
                obtain ⟨rfl, rfl⟩ := rq_ret h
                exact ry_rz (x := 0) op149_173 ms_149 rfl (by decide)
              · have h := (if_neg b54).symm.trans h
                refine rx_p (L2 := [some (.ref 115), o34, o35, o36]) (S2 := [.ref 115]) (pc2 := 175) op149_174 rfl rfl ?_
                refine rx_gf (v := .ref 118) (pc2 := 178) op149_175 sp_115 rfl rfl rfl ?_
                refine rx_ic (v := 3) (pc2 := 179) op149_178 (by decide) rfl ?_
                refine rx_p (L2 := [some (.ref 115), o34, o35, o36]) (S2 := [.ref 115, .int 3, .ref 118]) (pc2 := 180) op149_179 rfl rfl ?_
                obtain ⟨⟨r56, m55⟩, f57, h⟩ := rq_bind h
                try dsimp only at h
                refine ry_iv (p := 115) (vs := []) (T := [.int 3, .ref 118]) (pc2 := 183) op149_180 ms_154 (by decide) rfl rfl (Nat.le_of_ble_eq_true rfl) (Nat.le_of_ble_eq_true rfl) sp_115 (mo_readSuit_ok xs (by omega)  f57) rfl ?_
                show rn_R _ _ _ _ _ [.int r56, .int 3, .ref 118] _ _ _
                obtain ⟨m58, em58, h⟩ := rq_bv h
                refine rx_is (j := 3) (m2 := m58) (pc2 := 184) op149_183 sp_118 (by decide) (by decide) em58 rfl ?_
                refine rx_p (L2 := [some (.ref 115), o34, o35, o36]) (S2 := [.ref 115]) (pc2 := 185) op149_184 rfl rfl ?_
                refine rx_gf (v := .ref 118) (pc2 := 188) op149_185 sp_115 rfl rfl rfl ?_
                refine rx_ic (v := 3) (pc2 := 189) op149_188 (by decide) rfl ?_
                refine rx_ia (j := 3) (pc2 := 190) op149_189 (rn_shlt sp_118) sp_118 (by decide) (by decide) rfl ?_
                refine ry_if_ge (tgt := 195) (pc2 := 193) op149_190 (by decide) (by decide) rfl (fun b59 => ?_) (fun b59 => ?_)
                · have h := (if_pos b59).symm.trans h
                  refine rx_ic (v := 0) (pc2 := 194) op149_193 (by decide) rfl ?_
                  obtain ⟨rfl, rfl⟩ := rq_ret h
                  exact ry_rz (x := 0) op149_194 ms_149 rfl (by decide)
                · have h := (if_neg b59).symm.trans h
                  refine rx_p (L2 := [some (.ref 115), o34, o35, o36]) (S2 := [.ref 115]) (pc2 := 196) op149_195 rfl rfl ?_
                  refine rx_gf (v := .ref 118) (pc2 := 199) op149_196 sp_115 rfl rfl rfl ?_
                  refine rx_ic (v := 4) (pc2 := 200) op149_199 (by decide) rfl ?_
                  refine rx_p (L2 := [some (.ref 115), o34, o35, o36]) (S2 := [.ref 115, .int 4, .ref 118]) (pc2 := 201) op149_200 rfl rfl ?_
                  refine rx_bp (v := 102) (pc2 := 203) op149_201 (by decide) rfl ?_
                  refine rx_ic (v := 0) (pc2 := 204) op149_203 (by decide) rfl ?_
                  refine rx_ic (v := 2) (pc2 := 205) op149_204 (by decide) rfl ?_
                  obtain ⟨⟨r61, m60⟩, f62, h⟩ := rq_bind h
                  try dsimp only at h
                  refine ry_iv (p := 115) (vs := [.int 102, .int 0, .int 2]) (T := [.int 4, .ref 118]) (pc2 := 208) op149_205 ms_150 (by decide) rfl rfl (Nat.le_of_ble_eq_true rfl) (Nat.le_of_ble_eq_true rfl) sp_115 (mo_readDigit_ok xs (by omega)  f62) rfl ?_
                  show rn_R _ _ _ _ _ [.int r61, .int 4, .ref 118] _ _ _
                  obtain ⟨m63, em63, h⟩ := rq_bv h
                  refine rx_is (j := 4) (m2 := m63) (pc2 := 209) op149_208 sp_118 (by decide) (by decide) em63 rfl ?_
                  refine rx_p (L2 := [some (.ref 115), o34, o35, o36]) (S2 := [.ref 115]) (pc2 := 210) op149_209 rfl rfl ?_
                  refine rx_gf (v := .ref 118) (pc2 := 213) op149_210 sp_115 rfl rfl rfl ?_
                  refine rx_ic (v := 4) (pc2 := 214) op149_213 (by decide) rfl ?_
                  refine rx_ia (j := 4) (pc2 := 215) op149_214 (rn_shlt sp_118) sp_118 (by decide) (by decide) rfl ?_
                  refine ry_if_ge (tgt := 220) (pc2 := 218) op149_215 (by decide) (by decide) rfl (fun b64 => ?_) (fun b64 => ?_)
                  · have h := (if_pos b64).symm.trans h
                    refine rx_ic (v := 0) (pc2 := 219) op149_218 (by decide) rfl ?_
                    obtain ⟨rfl, rfl⟩ := rq_ret h
                    exact ry_rz (x := 0) op149_219 ms_149 rfl (by decide)
                  · have h := (if_neg b64).symm.trans h
                    refine rx_p (L2 := [some (.ref 115), o34, o35, o36]) (S2 := [.ref 115]) (pc2 := 221) op149_220 rfl rfl ?_
                    refine rx_gf (v := .ref 118) (pc2 := 224) op149_221 sp_115 rfl rfl rfl ?_
                    refine rx_ic (v := 5) (pc2 := 225) op149_224 (by decide) rfl ?_
                    refine rx_p (L2 := [some (.ref 115), o34, o35, o36]) (S2 := [.ref 115, .int 5, .ref 118]) (pc2 := 226) op149_225 rfl rfl ?_
                    refine rx_bp (v := 108) (pc2 := 228) op149_226 (by decide) rfl ?_
                    refine rx_ic (v := 0) (pc2 := 229) op149_228 (by decide) rfl ?_
                    refine rx_ic (v := 1) (pc2 := 230) op149_229 (by decide) rfl ?_
                    obtain ⟨⟨r66, m65⟩, f67, h⟩ := rq_bind h
                    try dsimp only at h
                    refine ry_iv (p := 115) (vs := [.int 108, .int 0, .int 1]) (T := [.int 5, .ref 118]) (pc2 := 233) op149_230 ms_150 (by decide) rfl rfl (Nat.le_of_ble_eq_true rfl) (Nat.le_of_ble_eq_true rfl) sp_115 (mo_readDigit_ok xs (by omega)  f67) rfl ?_
                    show rn_R _ _ _ _ _ [.int r66, .int 5, .ref 118] _ _ _
                    obtain ⟨m68, em68, h⟩ := rq_bv h
                    refine rx_is (j := 5) (m2 := m68) (pc2 := 234) op149_233 sp_118 (by decide) (by decide) em68 rfl ?_
                    refine rx_p (L2 := [some (.ref 115), o34, o35, o36]) (S2 := [.ref 115]) (pc2 := 235) op149_234 rfl rfl ?_
                    refine rx_gf (v := .ref 118) (pc2 := 238) op149_235 sp_115 rfl rfl rfl ?_
                    refine rx_ic (v := 5) (pc2 := 239) op149_238 (by decide) rfl ?_
                    refine rx_ia (j := 5) (pc2 := 240) op149_239 (rn_shlt sp_118) sp_118 (by decide) (by decide) rfl ?_
                    refine ry_if_ge (tgt := 245) (pc2 := 243) op149_240 (by decide) (by decide) rfl (fun b69 => ?_) (fun b69 => ?_)
                    · have h := (if_pos b69).symm.trans h
                      refine rx_ic (v := 0) (pc2 := 244) op149_243 (by decide) rfl ?_
                      obtain ⟨rfl, rfl⟩ := rq_ret h
                      exact ry_rz (x := 0) op149_244 ms_149 rfl (by decide)
                    · have h := (if_neg b69).symm.trans h
                      refine rx_p (L2 := [some (.ref 115), o34, o35, o36]) (S2 := [.ref 115]) (pc2 := 246) op149_245 rfl rfl ?_
                      refine rx_gf (v := .ref 118) (pc2 := 249) op149_246 sp_115 rfl rfl rfl ?_
                      refine rx_bp (v := 6) (pc2 := 251) op149_249 (by decide) rfl ?_
                      refine rx_p (L2 := [some (.ref 115), o34, o35, o36]) (S2 := [.ref 115, .int 6, .ref 118]) (pc2 := 252) op149_251 rfl rfl ?_
                      refine rx_bp (v := 107) (pc2 := 254) op149_252 (by decide) rfl ?_
                      refine rx_ic (v := 0) (pc2 := 255) op149_254 (by decide) rfl ?_
                      refine rx_ic (v := 1) (pc2 := 256) op149_255 (by decide) rfl ?_
                      obtain ⟨⟨r71, m70⟩, f72, h⟩ := rq_bind h
                      try dsimp only at h
                      refine ry_iv (p := 115) (vs := [.int 107, .int 0, .int 1]) (T := [.int 6, .ref 118]) (pc2 := 259) op149_256 ms_150 (by decide) rfl rfl (Nat.le_of_ble_eq_true rfl) (Nat.le_of_ble_eq_true rfl) sp_115 (mo_readDigit_ok xs (by omega)  f72) rfl ?_
                      show rn_R _ _ _ _ _ [.int r71, .int 6, .ref 118] _ _ _
                      obtain ⟨m73, em73, h⟩ := rq_bv h
                      refine rx_is (j := 6) (m2 := m73) (pc2 := 260) op149_259 sp_118 (by decide) (by decide) em73 rfl ?_
                      refine rx_p (L2 := [some (.ref 115), o34, o35, o36]) (S2 := [.ref 115]) (pc2 := 261) op149_260 rfl rfl ?_
                      refine rx_gf (v := .ref 118) (pc2 := 264) op149_261 sp_115 rfl rfl rfl ?_
                      refine rx_bp (v := 6) (pc2 := 266) op149_264 (by decide) rfl ?_
                      refine rx_ia (j := 6) (pc2 := 267) op149_266 (rn_shlt sp_118) sp_118 (by decide) (by decide) rfl ?_
                      refine ry_if_lt (tgt := 279) (pc2 := 270) op149_267 (by decide) (by decide) rfl (fun b74 => ?_) (fun b74 => ?_)
                      · have h := (if_pos b74).symm.trans h
                        refine rx_ic (v := 0) (pc2 := 280) op149_279 (by decide) rfl ?_
                        obtain ⟨rfl, rfl⟩ := rq_ret h
                        exact ry_rz (x := 0) op149_280 ms_149 rfl (by decide)
                      · have h := (if_neg b74).symm.trans h
                        refine rx_p (L2 := [some (.ref 115), o34, o35, o36]) (S2 := [.ref 115]) (pc2 := 271) op149_270 rfl rfl ?_
                        refine rx_bp (v := 98) (pc2 := 273) op149_271 (by decide) rfl ?_
                        obtain ⟨⟨r76, m75⟩, f77, h⟩ := rq_bind h
                        try dsimp only at h
                        refine ry_iv (p := 115) (vs := [.int 98]) (T := []) (pc2 := 276) op149_273 ms_151 (by decide) rfl rfl (Nat.le_of_ble_eq_true rfl) (Nat.le_of_ble_eq_true rfl) sp_115 (mo_takes_ok xs (by omega)  f77) rfl ?_
                        show rn_R _ _ _ _ _ [.int r76] _ _ _
                        refine ry_if_ne (tgt := 281) (pc2 := 279) op149_276 (by decide) (by decide) rfl (fun b78 => ?_) (fun b78 => ?_)
                        · have h := (if_pos b78).symm.trans h
                          refine rx_ic (v := 0) (pc2 := 280) op149_279 (by decide) rfl ?_
                          obtain ⟨rfl, rfl⟩ := rq_ret h
                          exact ry_rz (x := 0) op149_280 ms_149 rfl (by decide)
                        · have h := (if_neg b78).symm.trans h
                          refine rx_p (L2 := [some (.ref 115), o34, o35, o36]) (S2 := [.ref 115]) (pc2 := 282) op149_281 rfl rfl ?_
                          refine rx_gf (v := .ref 118) (pc2 := 285) op149_282 sp_115 rfl rfl rfl ?_
                          refine rx_bp (v := 7) (pc2 := 287) op149_285 (by decide) rfl ?_
                          refine rx_bp (v := (-4)) (pc2 := 289) op149_287 (by decide) rfl ?_
                          obtain ⟨m79, em79, h⟩ := rq_bv h
                          refine rx_is (j := 7) (m2 := m79) (pc2 := 290) op149_289 sp_118 (by decide) (by decide) em79 rfl ?_
                          refine rx_p (L2 := [some (.ref 115), o34, o35, o36]) (S2 := [.ref 115]) (pc2 := 291) op149_290 rfl rfl ?_
                          refine rx_bp (v := 63) (pc2 := 293) op149_291 (by decide) rfl ?_
                          obtain ⟨⟨r81, m80⟩, f82, h⟩ := rq_bind h
                          try dsimp only at h
                          refine ry_iv (p := 115) (vs := [.int 63]) (T := []) (pc2 := 296) op149_293 ms_151 (by decide) rfl rfl (Nat.le_of_ble_eq_true rfl) (Nat.le_of_ble_eq_true rfl) sp_115 (mo_takes_ok xs (by omega)  f82) rfl ?_
                          show rn_R _ _ _ _ _ [.int r81] _ _ _
                          refine ry_if_ne (tgt := 345) (pc2 := 299) op149_296 (by decide) (by decide) rfl (fun b83 => ?_) (fun b83 => ?_)
                          · have h := (if_pos b83).symm.trans h
                            refine rx_p (L2 := [some (.ref 115), o34, o35, o36]) (S2 := [.ref 115]) (pc2 := 300) op149_299 rfl rfl ?_
                            obtain ⟨⟨r96, m95⟩, f97, h⟩ := rq_bind h
                            try dsimp only at h
                            refine ry_iv (p := 115) (vs := []) (T := []) (pc2 := 303) op149_300 ms_152 (by decide) rfl rfl (Nat.le_of_ble_eq_true rfl) (Nat.le_of_ble_eq_true rfl) sp_115 (mo_nextByte_ok xs (by omega)  f97) rfl ?_
                            show rn_R _ _ _ _ _ [.int r96] _ _ _
                            refine rx_bp (v := 48) (pc2 := 305) op149_303 (by decide) rfl ?_
                            refine rx_p (L2 := [some (.ref 115), o34, o35, o36]) (S2 := [.int (r96 - 48)]) (pc2 := 306) op149_305 rfl rfl ?_
                            obtain ⟨x99, ex99, h⟩ := rq_bv h
                            refine rx_sd (v := x99) (j := 1) (pc2 := 307) op149_306 rfl ex99 (Nat.le_of_ble_eq_true rfl) rfl (fun o98 => ?_)
                            show rn_R _ _ _ _ [some (.ref 115), o98, some (.int x99), o36] _ _ _ _
                            refine rx_p (L2 := [some (.ref 115), o98, some (.int x99), o36]) (S2 := [.int x99]) (pc2 := 308) op149_307 rfl rfl ?_
                            refine rx_p (L2 := [some (.ref 115), o98, some (.int x99), o36]) (S2 := [.long (x99.toInt64)]) (pc2 := 309) op149_308 rfl rfl ?_
                            refine rx_lc (v := 0) (pc2 := 310) op149_309 (by decide) rfl ?_
                            refine rx_p (L2 := [some (.ref 115), o98, some (.int x99), o36]) (S2 := [.ref 115, .long 0, .long (x99.toInt64)]) (pc2 := 311) op149_310 rfl rfl ?_
                            refine rx_gf (v := .ref 118) (pc2 := 314) op149_311 sp_115 rfl rfl rfl ?_
                            refine rx_ic (v := 0) (pc2 := 315) op149_314 (by decide) rfl ?_
                            refine rx_ia (j := 0) (pc2 := 316) op149_315 (rn_shlt sp_118) sp_118 (by decide) (by decide) rfl ?_
                            refine rx_ic (v := 1) (pc2 := 317) op149_316 (by decide) rfl ?_
                            refine rx_p (L2 := [some (.ref 115), o98, some (.int x99), o36]) (S2 := [.int ((m95.1 118 0) - 1), .long 0, .long (x99.toInt64)]) (pc2 := 318) op149_317 rfl rfl ?_
                            refine rx_p (L2 := [some (.ref 115), o98, some (.int x99), o36]) (S2 := [.long (((m95.1 118 0) - 1).toInt64), .long 0, .long (x99.toInt64)]) (pc2 := 319) op149_318 rfl rfl ?_
                            obtain ⟨⟨r101, m100⟩, f102, h⟩ := rq_bind h
                            try dsimp only at h
                            refine ry_is (vs := [.long (x99.toInt64), .long 0, .long (((m95.1 118 0) - 1).toInt64)]) (T := []) (pc2 := 322) op149_319 (by decide) ms_147 (by decide) rfl rfl (Nat.le_of_ble_eq_true rfl) (Nat.le_of_ble_eq_true rfl) (mo_in_ok xs (by omega)  f102) rfl ?_
                            show rn_R _ _ _ _ _ [.int r101] _ _ _
                            refine ry_if_ne (tgt := 327) (pc2 := 325) op149_322 (by decide) (by decide) rfl (fun b103 => ?_) (fun b103 => ?_)
                            · have h := (if_pos b103).symm.trans h
                              refine rx_ic (v := 0) (pc2 := 326) op149_325 (by decide) rfl ?_
                              obtain ⟨rfl, rfl⟩ := rq_ret h
                              exact ry_rz (x := 0) op149_326 ms_149 rfl (by decide)
                            · have h := (if_neg b103).symm.trans h
                              refine rx_p (L2 := [some (.ref 115), o98, some (.int x99), o36]) (S2 := [.ref 115]) (pc2 := 328) op149_327 rfl rfl ?_
                              refine rx_p (L2 := [some (.ref 115), o98, some (.int x99), o36]) (S2 := [.ref 115, .ref 115]) (pc2 := 329) op149_328 rfl rfl ?_
                              refine rx_gf (v := .int (m100.1 115 3)) (pc2 := 332) op149_329 sp_115 rfl rfl rfl ?_
                              refine rx_ic (v := 1) (pc2 := 333) op149_332 (by decide) rfl ?_
                              refine rx_p (L2 := [some (.ref 115), o98, some (.int x99), o36]) (S2 := [.int ((m100.1 115 3) + 1), .ref 115]) (pc2 := 334) op149_333 rfl rfl ?_
                              obtain ⟨m104, em104, h⟩ := rq_bv h
                              refine rx_pf (m2 := m104) (pc2 := 337) op149_334 sp_115 rfl em104 rfl ?_
                              refine rx_p (L2 := [some (.ref 115), o98, some (.int x99), o36]) (S2 := [.ref 115]) (pc2 := 338) op149_337 rfl rfl ?_
                              refine rx_gf (v := .ref 118) (pc2 := 341) op149_338 sp_115 rfl rfl rfl ?_
                              refine rx_bp (v := 7) (pc2 := 343) op149_341 (by decide) rfl ?_
                              refine rx_p (L2 := [some (.ref 115), o98, some (.int x99), o36]) (S2 := [.int x99, .int 7, .ref 118]) (pc2 := 344) op149_343 rfl rfl ?_
                              obtain ⟨m105, em105, h⟩ := rq_bv h
                              refine rx_is (j := 7) (m2 := m105) (pc2 := 345) op149_344 sp_118 (by decide) (by decide) em105 rfl ?_
                              refine rx_p (L2 := [some (.ref 115), o98, some (.int x99), o36]) (S2 := [.ref 115]) (pc2 := 346) op149_345 rfl rfl ?_
                              obtain ⟨⟨r107, m106⟩, f108, h⟩ := rq_bind h
                              try dsimp only at h
                              refine ry_iv (p := 115) (vs := []) (T := []) (pc2 := 349) op149_346 ms_152 (by decide) rfl rfl (Nat.le_of_ble_eq_true rfl) (Nat.le_of_ble_eq_true rfl) sp_115 (mo_nextByte_ok xs (by omega)  f108) rfl ?_
                              show rn_R _ _ _ _ _ [.int r107] _ _ _
                              refine ry_if_ge (tgt := 356) (pc2 := 352) op149_349 (by decide) (by decide) rfl (fun b109 => ?_) (fun b109 => ?_)
                              · have h := (if_pos b109).symm.trans h
                                refine rx_ic (v := 1) (pc2 := 353) op149_352 (by decide) rfl ?_
                                refine ry_go (tgt := 357) op149_353 (by decide) (by decide) ?_
                                obtain ⟨rfl, rfl⟩ := rq_ret h
                                exact ry_rz (x := 1) op149_357 ms_149 rfl (by decide)
                              · have h := (if_neg b109).symm.trans h
                                refine rx_ic (v := 0) (pc2 := 357) op149_356 (by decide) rfl ?_
                                obtain ⟨rfl, rfl⟩ := rq_ret h
                                exact ry_rz (x := 0) op149_357 ms_149 rfl (by decide)
                          · have h := (if_neg b83).symm.trans h
                            refine rx_p (L2 := [some (.ref 115), o34, o35, o36]) (S2 := [.ref 115]) (pc2 := 346) op149_345 rfl rfl ?_
                            obtain ⟨⟨r111, m110⟩, f112, h⟩ := rq_bind h
                            try dsimp only at h
                            refine ry_iv (p := 115) (vs := []) (T := []) (pc2 := 349) op149_346 ms_152 (by decide) rfl rfl (Nat.le_of_ble_eq_true rfl) (Nat.le_of_ble_eq_true rfl) sp_115 (mo_nextByte_ok xs (by omega)  f112) rfl ?_
                            show rn_R _ _ _ _ _ [.int r111] _ _ _
                            refine ry_if_ge (tgt := 356) (pc2 := 352) op149_349 (by decide) (by decide) rfl (fun b113 => ?_) (fun b113 => ?_)
                            · have h := (if_pos b113).symm.trans h
                              refine rx_ic (v := 1) (pc2 := 353) op149_352 (by decide) rfl ?_
                              refine ry_go (tgt := 357) op149_353 (by decide) (by decide) ?_
                              obtain ⟨rfl, rfl⟩ := rq_ret h
                              exact ry_rz (x := 1) op149_357 ms_149 rfl (by decide)
                            · have h := (if_neg b113).symm.trans h
                              refine rx_ic (v := 0) (pc2 := 357) op149_356 (by decide) rfl ?_
                              obtain ⟨rfl, rfl⟩ := rq_ret h
                              exact ry_rz (x := 0) op149_357 ms_149 rfl (by decide)
            · have h := (if_neg b41).symm.trans h
              refine rx_p (L2 := [some (.ref 115), o34, o35, o36]) (S2 := [.ref 115]) (pc2 := 196) op149_195 rfl rfl ?_
              refine rx_gf (v := .ref 118) (pc2 := 199) op149_196 sp_115 rfl rfl rfl ?_
              refine rx_ic (v := 4) (pc2 := 200) op149_199 (by decide) rfl ?_
              refine rx_p (L2 := [some (.ref 115), o34, o35, o36]) (S2 := [.ref 115, .int 4, .ref 118]) (pc2 := 201) op149_200 rfl rfl ?_
              refine rx_bp (v := 102) (pc2 := 203) op149_201 (by decide) rfl ?_
              refine rx_ic (v := 0) (pc2 := 204) op149_203 (by decide) rfl ?_
              refine rx_ic (v := 2) (pc2 := 205) op149_204 (by decide) rfl ?_
              obtain ⟨⟨r115, m114⟩, f116, h⟩ := rq_bind h
              try dsimp only at h
              refine ry_iv (p := 115) (vs := [.int 102, .int 0, .int 2]) (T := [.int 4, .ref 118]) (pc2 := 208) op149_205 ms_150 (by decide) rfl rfl (Nat.le_of_ble_eq_true rfl) (Nat.le_of_ble_eq_true rfl) sp_115 (mo_readDigit_ok xs (by omega)  f116) rfl ?_
              show rn_R _ _ _ _ _ [.int r115, .int 4, .ref 118] _ _ _
              obtain ⟨m117, em117, h⟩ := rq_bv h
              refine rx_is (j := 4) (m2 := m117) (pc2 := 209) op149_208 sp_118 (by decide) (by decide) em117 rfl ?_
              refine rx_p (L2 := [some (.ref 115), o34, o35, o36]) (S2 := [.ref 115]) (pc2 := 210) op149_209 rfl rfl ?_
              refine rx_gf (v := .ref 118) (pc2 := 213) op149_210 sp_115 rfl rfl rfl ?_
              refine rx_ic (v := 4) (pc2 := 214) op149_213 (by decide) rfl ?_
              refine rx_ia (j := 4) (pc2 := 215) op149_214 (rn_shlt sp_118) sp_118 (by decide) (by decide) rfl ?_
              refine ry_if_ge (tgt := 220) (pc2 := 218) op149_215 (by decide) (by decide) rfl (fun b118 => ?_) (fun b118 => ?_)
              · have h := (if_pos b118).symm.trans h
                refine rx_ic (v := 0) (pc2 := 219) op149_218 (by decide) rfl ?_
                obtain ⟨rfl, rfl⟩ := rq_ret h
                exact ry_rz (x := 0) op149_219 ms_149 rfl (by decide)
              · have h := (if_neg b118).symm.trans h
                refine rx_p (L2 := [some (.ref 115), o34, o35, o36]) (S2 := [.ref 115]) (pc2 := 221) op149_220 rfl rfl ?_
                refine rx_gf (v := .ref 118) (pc2 := 224) op149_221 sp_115 rfl rfl rfl ?_
                refine rx_ic (v := 5) (pc2 := 225) op149_224 (by decide) rfl ?_
                refine rx_p (L2 := [some (.ref 115), o34, o35, o36]) (S2 := [.ref 115, .int 5, .ref 118]) (pc2 := 226) op149_225 rfl rfl ?_
                refine rx_bp (v := 108) (pc2 := 228) op149_226 (by decide) rfl ?_
                refine rx_ic (v := 0) (pc2 := 229) op149_228 (by decide) rfl ?_
                refine rx_ic (v := 1) (pc2 := 230) op149_229 (by decide) rfl ?_
                obtain ⟨⟨r120, m119⟩, f121, h⟩ := rq_bind h
                try dsimp only at h
                refine ry_iv (p := 115) (vs := [.int 108, .int 0, .int 1]) (T := [.int 5, .ref 118]) (pc2 := 233) op149_230 ms_150 (by decide) rfl rfl (Nat.le_of_ble_eq_true rfl) (Nat.le_of_ble_eq_true rfl) sp_115 (mo_readDigit_ok xs (by omega)  f121) rfl ?_
                show rn_R _ _ _ _ _ [.int r120, .int 5, .ref 118] _ _ _
                obtain ⟨m122, em122, h⟩ := rq_bv h
                refine rx_is (j := 5) (m2 := m122) (pc2 := 234) op149_233 sp_118 (by decide) (by decide) em122 rfl ?_
                refine rx_p (L2 := [some (.ref 115), o34, o35, o36]) (S2 := [.ref 115]) (pc2 := 235) op149_234 rfl rfl ?_
                refine rx_gf (v := .ref 118) (pc2 := 238) op149_235 sp_115 rfl rfl rfl ?_
                refine rx_ic (v := 5) (pc2 := 239) op149_238 (by decide) rfl ?_
                refine rx_ia (j := 5) (pc2 := 240) op149_239 (rn_shlt sp_118) sp_118 (by decide) (by decide) rfl ?_
                refine ry_if_ge (tgt := 245) (pc2 := 243) op149_240 (by decide) (by decide) rfl (fun b123 => ?_) (fun b123 => ?_)
                · have h := (if_pos b123).symm.trans h
                  refine rx_ic (v := 0) (pc2 := 244) op149_243 (by decide) rfl ?_
                  obtain ⟨rfl, rfl⟩ := rq_ret h
                  exact ry_rz (x := 0) op149_244 ms_149 rfl (by decide)
                · have h := (if_neg b123).symm.trans h
                  refine rx_p (L2 := [some (.ref 115), o34, o35, o36]) (S2 := [.ref 115]) (pc2 := 246) op149_245 rfl rfl ?_
                  refine rx_gf (v := .ref 118) (pc2 := 249) op149_246 sp_115 rfl rfl rfl ?_
                  refine rx_bp (v := 6) (pc2 := 251) op149_249 (by decide) rfl ?_
                  refine rx_p (L2 := [some (.ref 115), o34, o35, o36]) (S2 := [.ref 115, .int 6, .ref 118]) (pc2 := 252) op149_251 rfl rfl ?_
                  refine rx_bp (v := 107) (pc2 := 254) op149_252 (by decide) rfl ?_
                  refine rx_ic (v := 0) (pc2 := 255) op149_254 (by decide) rfl ?_
                  refine rx_ic (v := 1) (pc2 := 256) op149_255 (by decide) rfl ?_
                  obtain ⟨⟨r125, m124⟩, f126, h⟩ := rq_bind h
                  try dsimp only at h
                  refine ry_iv (p := 115) (vs := [.int 107, .int 0, .int 1]) (T := [.int 6, .ref 118]) (pc2 := 259) op149_256 ms_150 (by decide) rfl rfl (Nat.le_of_ble_eq_true rfl) (Nat.le_of_ble_eq_true rfl) sp_115 (mo_readDigit_ok xs (by omega)  f126) rfl ?_
                  show rn_R _ _ _ _ _ [.int r125, .int 6, .ref 118] _ _ _
                  obtain ⟨m127, em127, h⟩ := rq_bv h
                  refine rx_is (j := 6) (m2 := m127) (pc2 := 260) op149_259 sp_118 (by decide) (by decide) em127 rfl ?_
                  refine rx_p (L2 := [some (.ref 115), o34, o35, o36]) (S2 := [.ref 115]) (pc2 := 261) op149_260 rfl rfl ?_
                  refine rx_gf (v := .ref 118) (pc2 := 264) op149_261 sp_115 rfl rfl rfl ?_
                  refine rx_bp (v := 6) (pc2 := 266) op149_264 (by decide) rfl ?_
                  refine rx_ia (j := 6) (pc2 := 267) op149_266 (rn_shlt sp_118) sp_118 (by decide) (by decide) rfl ?_
                  refine ry_if_lt (tgt := 279) (pc2 := 270) op149_267 (by decide) (by decide) rfl (fun b128 => ?_) (fun b128 => ?_)
                  · have h := (if_pos b128).symm.trans h
                    refine rx_ic (v := 0) (pc2 := 280) op149_279 (by decide) rfl ?_
                    obtain ⟨rfl, rfl⟩ := rq_ret h
                    exact ry_rz (x := 0) op149_280 ms_149 rfl (by decide)
                  · have h := (if_neg b128).symm.trans h
                    refine rx_p (L2 := [some (.ref 115), o34, o35, o36]) (S2 := [.ref 115]) (pc2 := 271) op149_270 rfl rfl ?_
                    refine rx_bp (v := 98) (pc2 := 273) op149_271 (by decide) rfl ?_
                    obtain ⟨⟨r130, m129⟩, f131, h⟩ := rq_bind h
                    try dsimp only at h
                    refine ry_iv (p := 115) (vs := [.int 98]) (T := []) (pc2 := 276) op149_273 ms_151 (by decide) rfl rfl (Nat.le_of_ble_eq_true rfl) (Nat.le_of_ble_eq_true rfl) sp_115 (mo_takes_ok xs (by omega)  f131) rfl ?_
                    show rn_R _ _ _ _ _ [.int r130] _ _ _
                    refine ry_if_ne (tgt := 281) (pc2 := 279) op149_276 (by decide) (by decide) rfl (fun b132 => ?_) (fun b132 => ?_)
                    · have h := (if_pos b132).symm.trans h
                      refine rx_ic (v := 0) (pc2 := 280) op149_279 (by decide) rfl ?_
                      obtain ⟨rfl, rfl⟩ := rq_ret h
                      exact ry_rz (x := 0) op149_280 ms_149 rfl (by decide)
                    · have h := (if_neg b132).symm.trans h
                      refine rx_p (L2 := [some (.ref 115), o34, o35, o36]) (S2 := [.ref 115]) (pc2 := 282) op149_281 rfl rfl ?_
                      refine rx_gf (v := .ref 118) (pc2 := 285) op149_282 sp_115 rfl rfl rfl ?_
                      refine rx_bp (v := 7) (pc2 := 287) op149_285 (by decide) rfl ?_
                      refine rx_bp (v := (-4)) (pc2 := 289) op149_287 (by decide) rfl ?_
                      obtain ⟨m133, em133, h⟩ := rq_bv h
                      refine rx_is (j := 7) (m2 := m133) (pc2 := 290) op149_289 sp_118 (by decide) (by decide) em133 rfl ?_
                      refine rx_p (L2 := [some (.ref 115), o34, o35, o36]) (S2 := [.ref 115]) (pc2 := 291) op149_290 rfl rfl ?_
                      refine rx_bp (v := 63) (pc2 := 293) op149_291 (by decide) rfl ?_
                      obtain ⟨⟨r135, m134⟩, f136, h⟩ := rq_bind h
                      try dsimp only at h
                      refine ry_iv (p := 115) (vs := [.int 63]) (T := []) (pc2 := 296) op149_293 ms_151 (by decide) rfl rfl (Nat.le_of_ble_eq_true rfl) (Nat.le_of_ble_eq_true rfl) sp_115 (mo_takes_ok xs (by omega)  f136) rfl ?_
                      show rn_R _ _ _ _ _ [.int r135] _ _ _
                      refine ry_if_ne (tgt := 345) (pc2 := 299) op149_296 (by decide) (by decide) rfl (fun b137 => ?_) (fun b137 => ?_)
                      · have h := (if_pos b137).symm.trans h
                        refine rx_p (L2 := [some (.ref 115), o34, o35, o36]) (S2 := [.ref 115]) (pc2 := 300) op149_299 rfl rfl ?_
                        obtain ⟨⟨r150, m149⟩, f151, h⟩ := rq_bind h
                        try dsimp only at h
                        refine ry_iv (p := 115) (vs := []) (T := []) (pc2 := 303) op149_300 ms_152 (by decide) rfl rfl (Nat.le_of_ble_eq_true rfl) (Nat.le_of_ble_eq_true rfl) sp_115 (mo_nextByte_ok xs (by omega)  f151) rfl ?_
                        show rn_R _ _ _ _ _ [.int r150] _ _ _
                        refine rx_bp (v := 48) (pc2 := 305) op149_303 (by decide) rfl ?_
                        refine rx_p (L2 := [some (.ref 115), o34, o35, o36]) (S2 := [.int (r150 - 48)]) (pc2 := 306) op149_305 rfl rfl ?_
                        obtain ⟨x153, ex153, h⟩ := rq_bv h
                        refine rx_sd (v := x153) (j := 1) (pc2 := 307) op149_306 rfl ex153 (Nat.le_of_ble_eq_true rfl) rfl (fun o152 => ?_)
                        show rn_R _ _ _ _ [some (.ref 115), o152, some (.int x153), o36] _ _ _ _
                        refine rx_p (L2 := [some (.ref 115), o152, some (.int x153), o36]) (S2 := [.int x153]) (pc2 := 308) op149_307 rfl rfl ?_
                        refine rx_p (L2 := [some (.ref 115), o152, some (.int x153), o36]) (S2 := [.long (x153.toInt64)]) (pc2 := 309) op149_308 rfl rfl ?_
                        refine rx_lc (v := 0) (pc2 := 310) op149_309 (by decide) rfl ?_
                        refine rx_p (L2 := [some (.ref 115), o152, some (.int x153), o36]) (S2 := [.ref 115, .long 0, .long (x153.toInt64)]) (pc2 := 311) op149_310 rfl rfl ?_
                        refine rx_gf (v := .ref 118) (pc2 := 314) op149_311 sp_115 rfl rfl rfl ?_
                        refine rx_ic (v := 0) (pc2 := 315) op149_314 (by decide) rfl ?_
                        refine rx_ia (j := 0) (pc2 := 316) op149_315 (rn_shlt sp_118) sp_118 (by decide) (by decide) rfl ?_
                        refine rx_ic (v := 1) (pc2 := 317) op149_316 (by decide) rfl ?_
                        refine rx_p (L2 := [some (.ref 115), o152, some (.int x153), o36]) (S2 := [.int ((m149.1 118 0) - 1), .long 0, .long (x153.toInt64)]) (pc2 := 318) op149_317 rfl rfl ?_
                        refine rx_p (L2 := [some (.ref 115), o152, some (.int x153), o36]) (S2 := [.long (((m149.1 118 0) - 1).toInt64), .long 0, .long (x153.toInt64)]) (pc2 := 319) op149_318 rfl rfl ?_
                        obtain ⟨⟨r155, m154⟩, f156, h⟩ := rq_bind h
                        try dsimp only at h
                        refine ry_is (vs := [.long (x153.toInt64), .long 0, .long (((m149.1 118 0) - 1).toInt64)]) (T := []) (pc2 := 322) op149_319 (by decide) ms_147 (by decide) rfl rfl (Nat.le_of_ble_eq_true rfl) (Nat.le_of_ble_eq_true rfl) (mo_in_ok xs (by omega)  f156) rfl ?_
                        show rn_R _ _ _ _ _ [.int r155] _ _ _
                        refine ry_if_ne (tgt := 327) (pc2 := 325) op149_322 (by decide) (by decide) rfl (fun b157 => ?_) (fun b157 => ?_)
                        · have h := (if_pos b157).symm.trans h
                          refine rx_ic (v := 0) (pc2 := 326) op149_325 (by decide) rfl ?_
                          obtain ⟨rfl, rfl⟩ := rq_ret h
                          exact ry_rz (x := 0) op149_326 ms_149 rfl (by decide)
                        · have h := (if_neg b157).symm.trans h
                          refine rx_p (L2 := [some (.ref 115), o152, some (.int x153), o36]) (S2 := [.ref 115]) (pc2 := 328) op149_327 rfl rfl ?_
                          refine rx_p (L2 := [some (.ref 115), o152, some (.int x153), o36]) (S2 := [.ref 115, .ref 115]) (pc2 := 329) op149_328 rfl rfl ?_
                          refine rx_gf (v := .int (m154.1 115 3)) (pc2 := 332) op149_329 sp_115 rfl rfl rfl ?_
                          refine rx_ic (v := 1) (pc2 := 333) op149_332 (by decide) rfl ?_
                          refine rx_p (L2 := [some (.ref 115), o152, some (.int x153), o36]) (S2 := [.int ((m154.1 115 3) + 1), .ref 115]) (pc2 := 334) op149_333 rfl rfl ?_
                          obtain ⟨m158, em158, h⟩ := rq_bv h
                          refine rx_pf (m2 := m158) (pc2 := 337) op149_334 sp_115 rfl em158 rfl ?_
                          refine rx_p (L2 := [some (.ref 115), o152, some (.int x153), o36]) (S2 := [.ref 115]) (pc2 := 338) op149_337 rfl rfl ?_
                          refine rx_gf (v := .ref 118) (pc2 := 341) op149_338 sp_115 rfl rfl rfl ?_
                          refine rx_bp (v := 7) (pc2 := 343) op149_341 (by decide) rfl ?_
                          refine rx_p (L2 := [some (.ref 115), o152, some (.int x153), o36]) (S2 := [.int x153, .int 7, .ref 118]) (pc2 := 344) op149_343 rfl rfl ?_
                          obtain ⟨m159, em159, h⟩ := rq_bv h
                          refine rx_is (j := 7) (m2 := m159) (pc2 := 345) op149_344 sp_118 (by decide) (by decide) em159 rfl ?_
                          refine rx_p (L2 := [some (.ref 115), o152, some (.int x153), o36]) (S2 := [.ref 115]) (pc2 := 346) op149_345 rfl rfl ?_
                          obtain ⟨⟨r161, m160⟩, f162, h⟩ := rq_bind h
                          try dsimp only at h
                          refine ry_iv (p := 115) (vs := []) (T := []) (pc2 := 349) op149_346 ms_152 (by decide) rfl rfl (Nat.le_of_ble_eq_true rfl) (Nat.le_of_ble_eq_true rfl) sp_115 (mo_nextByte_ok xs (by omega)  f162) rfl ?_
                          show rn_R _ _ _ _ _ [.int r161] _ _ _
                          refine ry_if_ge (tgt := 356) (pc2 := 352) op149_349 (by decide) (by decide) rfl (fun b163 => ?_) (fun b163 => ?_)
                          · have h := (if_pos b163).symm.trans h
                            refine rx_ic (v := 1) (pc2 := 353) op149_352 (by decide) rfl ?_
                            refine ry_go (tgt := 357) op149_353 (by decide) (by decide) ?_
                            obtain ⟨rfl, rfl⟩ := rq_ret h
                            exact ry_rz (x := 1) op149_357 ms_149 rfl (by decide)
                          · have h := (if_neg b163).symm.trans h
                            refine rx_ic (v := 0) (pc2 := 357) op149_356 (by decide) rfl ?_
                            obtain ⟨rfl, rfl⟩ := rq_ret h
                            exact ry_rz (x := 0) op149_357 ms_149 rfl (by decide)
                      · have h := (if_neg b137).symm.trans h
                        refine rx_p (L2 := [some (.ref 115), o34, o35, o36]) (S2 := [.ref 115]) (pc2 := 346) op149_345 rfl rfl ?_
                        obtain ⟨⟨r165, m164⟩, f166, h⟩ := rq_bind h
                        try dsimp only at h
                        refine ry_iv (p := 115) (vs := []) (T := []) (pc2 := 349) op149_346 ms_152 (by decide) rfl rfl (Nat.le_of_ble_eq_true rfl) (Nat.le_of_ble_eq_true rfl) sp_115 (mo_nextByte_ok xs (by omega)  f166) rfl ?_
                        show rn_R _ _ _ _ _ [.int r165] _ _ _
                        refine ry_if_ge (tgt := 356) (pc2 := 352) op149_349 (by decide) (by decide) rfl (fun b167 => ?_) (fun b167 => ?_)
                        · have h := (if_pos b167).symm.trans h
                          refine rx_ic (v := 1) (pc2 := 353) op149_352 (by decide) rfl ?_
                          refine ry_go (tgt := 357) op149_353 (by decide) (by decide) ?_
                          obtain ⟨rfl, rfl⟩ := rq_ret h
                          exact ry_rz (x := 1) op149_357 ms_149 rfl (by decide)
                        · have h := (if_neg b167).symm.trans h
                          refine rx_ic (v := 0) (pc2 := 357) op149_356 (by decide) rfl ?_
                          obtain ⟨rfl, rfl⟩ := rq_ret h
                          exact ry_rz (x := 0) op149_357 ms_149 rfl (by decide)
    refine ry_ic_ge (tgt := 58) (pc2 := 54) op149_51 (by decide) (by decide) rfl (fun b9 => ?_) (fun b9 => ?_)
    · have gc169 := (if_pos b9).symm.trans gc169
      refine rx_p (L2 := [some (.ref 115), some (.int x8), none, none]) (S2 := [.int x8, .int 1, .int 116, .ref 115, .int 1, .ref 118]) (pc2 := 55) op149_54 rfl rfl ?_
      refine ry_go (tgt := 59) op149_55 (by decide) (by decide) ?_
      cases gc169
      exact c169 _ _ _
    · have gc169 := (if_neg b9).symm.trans gc169
      refine rx_ic (v := 4) (pc2 := 59) op149_58 (by decide) rfl ?_
      cases gc169
      exact c169 _ _ _
