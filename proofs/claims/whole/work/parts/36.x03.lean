/-! se_lay -/
theorem op76_0 : rn_op 76 0 = some (.iload_n 1, 1, 0, 0, 0) := by decide +kernel
theorem op76_1 : rn_op 76 1 = some (.ifCond .ge 4, 3, 0, 0, 0) := by decide +kernel
theorem op76_4 : rn_op 76 4 = some (.return_, 1, 0, 0, 0) := by decide +kernel
theorem op76_5 : rn_op 76 5 = some (.iconst 0, 1, 0, 0, 0) := by decide +kernel
theorem op76_6 : rn_op 76 6 = some (.istore 7, 2, 0, 0, 0) := by decide +kernel
theorem op76_8 : rn_op 76 8 = some (.iload 7, 2, 0, 0, 0) := by decide +kernel
theorem op76_10 : rn_op 76 10 = some (.aload_n 0, 1, 0, 0, 0) := by decide +kernel
theorem op76_11 : rn_op 76 11 = some (.getfield 12, 3, 4, 0, 3) := by decide +kernel
theorem op76_14 : rn_op 76 14 = some (.getfield 101, 3, 1, 1, 0) := by decide +kernel
theorem op76_17 : rn_op 76 17 = some (.if_icmp .ge 90, 3, 0, 0, 0) := by decide +kernel
theorem op76_20 : rn_op 76 20 = some (.aload_n 0, 1, 0, 0, 0) := by decide +kernel
theorem op76_21 : rn_op 76 21 = some (.getfield 42, 3, 4, 5, 3) := by decide +kernel
theorem op76_24 : rn_op 76 24 = some (.iload 7, 2, 0, 0, 0) := by decide +kernel
theorem op76_26 : rn_op 76 26 = some (.iaload, 1, 0, 0, 0) := by decide +kernel
theorem op76_27 : rn_op 76 27 = some (.ifCond .le 74, 3, 0, 0, 0) := by decide +kernel
theorem op76_30 : rn_op 76 30 = some (.aload_n 0, 1, 0, 0, 0) := by decide +kernel
theorem op76_31 : rn_op 76 31 = some (.getfield 12, 3, 4, 0, 3) := by decide +kernel
theorem op76_34 : rn_op 76 34 = some (.getfield 156, 3, 1, 6, 0) := by decide +kernel
theorem op76_37 : rn_op 76 37 = some (.iconst 1, 1, 0, 0, 0) := by decide +kernel
theorem op76_38 : rn_op 76 38 = some (.if_icmp .eq 13, 3, 0, 0, 0) := by decide +kernel
theorem op76_41 : rn_op 76 41 = some (.iload_n 2, 1, 0, 0, 0) := by decide +kernel
theorem op76_42 : rn_op 76 42 = some (.ifCond .lt 9, 3, 0, 0, 0) := by decide +kernel
theorem op76_45 : rn_op 76 45 = some (.iload 7, 2, 0, 0, 0) := by decide +kernel
theorem op76_47 : rn_op 76 47 = some (.iload_n 2, 1, 0, 0, 0) := by decide +kernel
theorem op76_48 : rn_op 76 48 = some (.if_icmp .ne 53, 3, 0, 0, 0) := by decide +kernel
theorem op76_51 : rn_op 76 51 = some (.aload_n 0, 1, 0, 0, 0) := by decide +kernel
theorem op76_52 : rn_op 76 52 = some (.getfield 42, 3, 4, 5, 3) := by decide +kernel
theorem op76_55 : rn_op 76 55 = some (.iload 7, 2, 0, 0, 0) := by decide +kernel
theorem op76_57 : rn_op 76 57 = some (.dup2, 1, 0, 0, 0) := by decide +kernel
theorem op76_58 : rn_op 76 58 = some (.iaload, 1, 0, 0, 0) := by decide +kernel
theorem op76_59 : rn_op 76 59 = some (.iconst 1, 1, 0, 0, 0) := by decide +kernel
theorem op76_60 : rn_op 76 60 = some (.isub, 1, 0, 0, 0) := by decide +kernel
theorem op76_61 : rn_op 76 61 = some (.iastore, 1, 0, 0, 0) := by decide +kernel
theorem op76_62 : rn_op 76 62 = some (.aload_n 0, 1, 0, 0, 0) := by decide +kernel
theorem op76_63 : rn_op 76 63 = some (.iload_n 1, 1, 0, 0, 0) := by decide +kernel
theorem op76_64 : rn_op 76 64 = some (.aload_n 0, 1, 0, 0, 0) := by decide +kernel
theorem op76_65 : rn_op 76 65 = some (.getfield 38, 3, 4, 4, 3) := by decide +kernel
theorem op76_68 : rn_op 76 68 = some (.iload 7, 2, 0, 0, 0) := by decide +kernel
theorem op76_70 : rn_op 76 70 = some (.iaload, 1, 0, 0, 0) := by decide +kernel
theorem op76_71 : rn_op 76 71 = some (.aload_n 0, 1, 0, 0, 0) := by decide +kernel
theorem op76_72 : rn_op 76 72 = some (.getfield 42, 3, 4, 5, 3) := by decide +kernel
theorem op76_75 : rn_op 76 75 = some (.iload 7, 2, 0, 0, 0) := by decide +kernel
theorem op76_77 : rn_op 76 77 = some (.iaload, 1, 0, 0, 0) := by decide +kernel
theorem op76_78 : rn_op 76 78 = some (.iadd, 1, 0, 0, 0) := by decide +kernel
theorem op76_79 : rn_op 76 79 = some (.iload_n 2, 1, 0, 0, 0) := by decide +kernel
theorem op76_80 : rn_op 76 80 = some (.iload_n 3, 1, 0, 0, 0) := by decide +kernel
theorem op76_81 : rn_op 76 81 = some (.iload 4, 2, 0, 0, 0) := by decide +kernel
theorem op76_83 : rn_op 76 83 = some (.iload 5, 2, 0, 0, 0) := by decide +kernel
theorem op76_85 : rn_op 76 85 = some (.iload 6, 2, 0, 0, 0) := by decide +kernel
theorem op76_87 : rn_op 76 87 = some (.invokevirtual 196, 3, 77, 8, 4) := by decide +kernel
theorem op76_90 : rn_op 76 90 = some (.aload_n 0, 1, 0, 0, 0) := by decide +kernel
theorem op76_91 : rn_op 76 91 = some (.getfield 42, 3, 4, 5, 3) := by decide +kernel
theorem op76_94 : rn_op 76 94 = some (.iload 7, 2, 0, 0, 0) := by decide +kernel
theorem op76_96 : rn_op 76 96 = some (.dup2, 1, 0, 0, 0) := by decide +kernel
theorem op76_97 : rn_op 76 97 = some (.iaload, 1, 0, 0, 0) := by decide +kernel
theorem op76_98 : rn_op 76 98 = some (.iconst 1, 1, 0, 0, 0) := by decide +kernel
theorem op76_99 : rn_op 76 99 = some (.iadd, 1, 0, 0, 0) := by decide +kernel
theorem op76_100 : rn_op 76 100 = some (.iastore, 1, 0, 0, 0) := by decide +kernel
theorem op76_101 : rn_op 76 101 = some (.iinc 7 1, 3, 0, 0, 0) := by decide +kernel
theorem op76_104 : rn_op 76 104 = some (.goto (-96), 3, 0, 0, 0) := by decide +kernel
theorem op76_107 : rn_op 76 107 = some (.return_, 1, 0, 0, 0) := by decide +kernel
def se_lay_l8 (rec : Int32 → Int32 → Int32 → Int32 → Int32 → Int32 → rn_Mem → Option (rn_Mem)) (a1 : Int32) (a2 : Int32) (a3 : Int32) (a4 : Int32) (a5 : Int32) (a6 : Int32) : Nat → Int32 → rn_Mem → Option (rn_Mem)
  | 0, _, _ => none
  | n + 1, a7, m =>
    if a7 < (m.1 52 1) then
      if rn_in a7 4 = true then
        (show Option (rn_Mem) from
          if 0 < (m.1 64 a7.toNatClampNeg) then
            if (m.1 52 6) = 1 then
              if rn_in a7 4 = true then
                if rn_in a7 4 = true then
                  (some (rm_i m 64 a7.toNatClampNeg ((m.1 64 a7.toNatClampNeg) - 1))).bind fun (m7 : rn_Mem) =>
                  if rn_in a7 4 = true then
                    if rn_in a7 4 = true then
                      (se_layTrick rec n a1 ((m7.1 63 a7.toNatClampNeg) + (m7.1 64 a7.toNatClampNeg)) a2 a3 a4 a5 a6 m7).bind fun m11 =>
                      if rn_in a7 4 = true then
                        if rn_in a7 4 = true then
                          (some (rm_i m11 64 a7.toNatClampNeg ((m11.1 64 a7.toNatClampNeg) + 1))).bind fun (m14 : rn_Mem) =>
                          some (m14)
                        else none
                      else none
                    else none
                  else none
                else none
              else none
            else
              if a2 < 0 then
                if rn_in a7 4 = true then
                  if rn_in a7 4 = true then
                    (some (rm_i m 64 a7.toNatClampNeg ((m.1 64 a7.toNatClampNeg) - 1))).bind fun (m18 : rn_Mem) =>
                    if rn_in a7 4 = true then
                      if rn_in a7 4 = true then
                        (se_layTrick rec n a1 ((m18.1 63 a7.toNatClampNeg) + (m18.1 64 a7.toNatClampNeg)) a2 a3 a4 a5 a6 m18).bind fun m22 =>
                        if rn_in a7 4 = true then
                          if rn_in a7 4 = true then
                            (some (rm_i m22 64 a7.toNatClampNeg ((m22.1 64 a7.toNatClampNeg) + 1))).bind fun (m25 : rn_Mem) =>
                            some (m25)
                          else none
                        else none
                      else none
                    else none
                  else none
                else none
              else
                if a7 = a2 then
                  if rn_in a7 4 = true then
                    if rn_in a7 4 = true then
                      (some (rm_i m 64 a7.toNatClampNeg ((m.1 64 a7.toNatClampNeg) - 1))).bind fun (m29 : rn_Mem) =>
                      if rn_in a7 4 = true then
                        if rn_in a7 4 = true then
                          (se_layTrick rec n a1 ((m29.1 63 a7.toNatClampNeg) + (m29.1 64 a7.toNatClampNeg)) a2 a3 a4 a5 a6 m29).bind fun m33 =>
                          if rn_in a7 4 = true then
                            if rn_in a7 4 = true then
                              (some (rm_i m33 64 a7.toNatClampNeg ((m33.1 64 a7.toNatClampNeg) + 1))).bind fun (m36 : rn_Mem) =>
                              some (m36)
                            else none
                          else none
                        else none
                      else none
                    else none
                  else none
                else
                  some (m)
          else
            some (m)).bind fun m38 =>
        (some (a7 + 1)).bind fun (x39 : Int32) =>
        se_lay_l8 rec a1 a2 a3 a4 a5 a6 n x39 m38
      else none
    else
      some m
def se_lay_1 (rec : Int32 → Int32 → Int32 → Int32 → Int32 → Int32 → rn_Mem → Option (rn_Mem)) (n : Nat) (a1 : Int32) (a2 : Int32) (a3 : Int32) (a4 : Int32) (a5 : Int32) (a6 : Int32) (m : rn_Mem) : Option (rn_Mem) :=
  if a1 < 0 then
    some m
  else
    (se_lay_l8 rec a1 a2 a3 a4 a5 a6 n 0 m).bind fun m41 =>
    some m41
def se_lay (n : Nat) : Nat → Int32 → Int32 → Int32 → Int32 → Int32 → Int32 → rn_Mem → Option (rn_Mem)
  | 0 => fun _ _ _ _ _ _ _ => none
  | k + 1 => se_lay_1 (se_lay n k) n
set_option maxHeartbeats 4000000 in
set_option maxRecDepth 20000 in
theorem se_lay_l8_ok (xs : List Int32) {d : Nat} (hd : 3 ≤ d) {rec : Int32 → Int32 → Int32 → Int32 → Int32 → Int32 → rn_Mem → Option (rn_Mem)} (hrec : ∀ {a1 : Int32} {a2 : Int32} {a3 : Int32} {a4 : Int32} {a5 : Int32} {a6 : Int32} {mI mO : rn_Mem} , rec a1 a2 a3 a4 a5 a6 mI = some mO → rn_R xs d 76 0 (rn_ent 8 [.ref 51, .int a1, .int a2, .int a3, .int a4, .int a5, .int a6]) [] (rn_SH, mI) none (rn_SH, mO)) {a1 : Int32} {a2 : Int32} {a3 : Int32} {a4 : Int32} {a5 : Int32} {a6 : Int32} {r : Option Value} {τ : rn_H} {out : rn_Mem} (hr : ∀ (mO : rn_Mem), out = mO → ∀ (o0 o1 o2 o3 o4 o5 o6 o7 : Option Value), rn_R xs (d + 2) 76 107 [o0, o1, o2, o3, o4, o5, o6, o7] [] (rn_SH, mO) r τ) : ∀ (n : Nat) (a7 : Int32) (m : rn_Mem), se_lay_l8 rec a1 a2 a3 a4 a5 a6 n a7 m = some out → rn_R xs (d + 2) 76 8 [some (.ref 51), some (.int a1), some (.int a2), some (.int a3), some (.int a4), some (.int a5), some (.int a6), some (.int a7)] [] (rn_SH, m) r τ := by
  intro n
  induction n with
  | zero =>
    intro _ _ h
    cases h
  | succ n ih =>
    intro a7 m h
    unfold se_lay_l8 at h
    try dsimp only at h
    refine rx_p (L2 := [some (.ref 51), some (.int a1), some (.int a2), some (.int a3), some (.int a4), some (.int a5), some (.int a6), some (.int a7)]) (S2 := [.int a7]) (pc2 := 10) op76_8 rfl rfl ?_
    refine rx_p (L2 := [some (.ref 51), some (.int a1), some (.int a2), some (.int a3), some (.int a4), some (.int a5), some (.int a6), some (.int a7)]) (S2 := [.ref 51, .int a7]) (pc2 := 11) op76_10 rfl rfl ?_
    refine rx_gf (v := .ref 52) (pc2 := 14) op76_11 sp_51 rfl rfl rfl ?_
    refine rx_gf (v := .int (m.1 52 1)) (pc2 := 17) op76_14 sp_52 rfl rfl rfl ?_
    refine ry_ic_ge (tgt := 107) (pc2 := 20) op76_17 (by decide) (by decide) rfl (fun b2 => ?_) (fun b2 => ?_)
    · have h := (if_pos b2).symm.trans h
      refine rx_p (L2 := [some (.ref 51), some (.int a1), some (.int a2), some (.int a3), some (.int a4), some (.int a5), some (.int a6), some (.int a7)]) (S2 := [.ref 51]) (pc2 := 21) op76_20 rfl rfl ?_
      refine rx_gf (v := .ref 64) (pc2 := 24) op76_21 sp_51 rfl rfl rfl ?_
      refine rx_p (L2 := [some (.ref 51), some (.int a1), some (.int a2), some (.int a3), some (.int a4), some (.int a5), some (.int a6), some (.int a7)]) (S2 := [.int a7, .ref 64]) (pc2 := 26) op76_24 rfl rfl ?_
      obtain ⟨k3, h⟩ := rq_chk h
      refine rx_ia (pc2 := 27) op76_26 (rn_shlt sp_64) sp_64 k3 rfl rfl ?_
      obtain ⟨m38, gc40, h⟩ := rq_bind h
      try dsimp only at h
      have c40 : ∀ (_ : Unit), rn_R xs (d + 2) 76 101 [some (.ref 51), some (.int a1), some (.int a2), some (.int a3), some (.int a4), some (.int a5), some (.int a6), some (.int a7)] [] (rn_SH, m38) r τ := by
        intro _
        obtain ⟨x39, ex39, h⟩ := rq_bv h
        refine rx_inc (w := 1) (v := x39) (L2 := [some (.ref 51), some (.int a1), some (.int a2), some (.int a3), some (.int a4), some (.int a5), some (.int a6), some (.int x39)]) (pc2 := 104) op76_101 rfl (by decide) ex39 rfl rfl ?_
        refine ry_go (tgt := 8) op76_104 (by decide) (by decide) ?_
        exact ih _ _ h
      refine ry_if_le (tgt := 101) (pc2 := 30) op76_27 (by decide) (by decide) rfl (fun b4 => ?_) (fun b4 => ?_)
      · have gc40 := (if_pos b4).symm.trans gc40
        refine rx_p (L2 := [some (.ref 51), some (.int a1), some (.int a2), some (.int a3), some (.int a4), some (.int a5), some (.int a6), some (.int a7)]) (S2 := [.ref 51]) (pc2 := 31) op76_30 rfl rfl ?_
        refine rx_gf (v := .ref 52) (pc2 := 34) op76_31 sp_51 rfl rfl rfl ?_
        refine rx_gf (v := .int (m.1 52 6)) (pc2 := 37) op76_34 sp_52 rfl rfl rfl ?_
        refine rx_ic (v := 1) (pc2 := 38) op76_37 (by decide) rfl ?_
        refine ry_ic_eq (tgt := 51) (pc2 := 41) op76_38 (by decide) (by decide) rfl (fun b5 => ?_) (fun b5 => ?_)
        · have gc40 := (if_pos b5).symm.trans gc40
          refine rx_p (L2 := [some (.ref 51), some (.int a1), some (.int a2), some (.int a3), some (.int a4), some (.int a5), some (.int a6), some (.int a7)]) (S2 := [.ref 51]) (pc2 := 52) op76_51 rfl rfl ?_
          refine rx_gf (v := .ref 64) (pc2 := 55) op76_52 sp_51 rfl rfl rfl ?_
          refine rx_p (L2 := [some (.ref 51), some (.int a1), some (.int a2), some (.int a3), some (.int a4), some (.int a5), some (.int a6), some (.int a7)]) (S2 := [.int a7, .ref 64]) (pc2 := 57) op76_55 rfl rfl ?_
          refine rx_p (L2 := [some (.ref 51), some (.int a1), some (.int a2), some (.int a3), some (.int a4), some (.int a5), some (.int a6), some (.int a7)]) (S2 := [.int a7, .ref 64, .int a7, .ref 64]) (pc2 := 58) op76_57 rfl rfl ?_
          obtain ⟨k6, gc40⟩ := rq_chk gc40
          refine rx_ia (pc2 := 59) op76_58 (rn_shlt sp_64) sp_64 k6 rfl rfl ?_
          refine rx_ic (v := 1) (pc2 := 60) op76_59 (by decide) rfl ?_
          refine rx_p (L2 := [some (.ref 51), some (.int a1), some (.int a2), some (.int a3), some (.int a4), some (.int a5), some (.int a6), some (.int a7)]) (S2 := [.int ((m.1 64 a7.toNatClampNeg) - 1), .int a7, .ref 64]) (pc2 := 61) op76_60 rfl rfl ?_
          obtain ⟨k8, gc40⟩ := rq_chk gc40
          obtain ⟨m7, em7, gc40⟩ := rq_bv gc40
          refine rx_is (m2 := m7) (pc2 := 62) op76_61 sp_64 k8 rfl em7 rfl ?_
          refine rx_p (L2 := [some (.ref 51), some (.int a1), some (.int a2), some (.int a3), some (.int a4), some (.int a5), some (.int a6), some (.int a7)]) (S2 := [.ref 51]) (pc2 := 63) op76_62 rfl rfl ?_
          refine rx_p (L2 := [some (.ref 51), some (.int a1), some (.int a2), some (.int a3), some (.int a4), some (.int a5), some (.int a6), some (.int a7)]) (S2 := [.int a1, .ref 51]) (pc2 := 64) op76_63 rfl rfl ?_
          refine rx_p (L2 := [some (.ref 51), some (.int a1), some (.int a2), some (.int a3), some (.int a4), some (.int a5), some (.int a6), some (.int a7)]) (S2 := [.ref 51, .int a1, .ref 51]) (pc2 := 65) op76_64 rfl rfl ?_
          refine rx_gf (v := .ref 63) (pc2 := 68) op76_65 sp_51 rfl rfl rfl ?_
          refine rx_p (L2 := [some (.ref 51), some (.int a1), some (.int a2), some (.int a3), some (.int a4), some (.int a5), some (.int a6), some (.int a7)]) (S2 := [.int a7, .ref 63, .int a1, .ref 51]) (pc2 := 70) op76_68 rfl rfl ?_
          obtain ⟨k9, gc40⟩ := rq_chk gc40
          refine rx_ia (pc2 := 71) op76_70 (rn_shlt sp_63) sp_63 k9 rfl rfl ?_
          refine rx_p (L2 := [some (.ref 51), some (.int a1), some (.int a2), some (.int a3), some (.int a4), some (.int a5), some (.int a6), some (.int a7)]) (S2 := [.ref 51, .int (m7.1 63 a7.toNatClampNeg), .int a1, .ref 51]) (pc2 := 72) op76_71 rfl rfl ?_
          refine rx_gf (v := .ref 64) (pc2 := 75) op76_72 sp_51 rfl rfl rfl ?_
          refine rx_p (L2 := [some (.ref 51), some (.int a1), some (.int a2), some (.int a3), some (.int a4), some (.int a5), some (.int a6), some (.int a7)]) (S2 := [.int a7, .ref 64, .int (m7.1 63 a7.toNatClampNeg), .int a1, .ref 51]) (pc2 := 77) op76_75 rfl rfl ?_
          obtain ⟨k10, gc40⟩ := rq_chk gc40
          refine rx_ia (pc2 := 78) op76_77 (rn_shlt sp_64) sp_64 k10 rfl rfl ?_
          refine rx_p (L2 := [some (.ref 51), some (.int a1), some (.int a2), some (.int a3), some (.int a4), some (.int a5), some (.int a6), some (.int a7)]) (S2 := [.int ((m7.1 63 a7.toNatClampNeg) + (m7.1 64 a7.toNatClampNeg)), .int a1, .ref 51]) (pc2 := 79) op76_78 rfl rfl ?_
          refine rx_p (L2 := [some (.ref 51), some (.int a1), some (.int a2), some (.int a3), some (.int a4), some (.int a5), some (.int a6), some (.int a7)]) (S2 := [.int a2, .int ((m7.1 63 a7.toNatClampNeg) + (m7.1 64 a7.toNatClampNeg)), .int a1, .ref 51]) (pc2 := 80) op76_79 rfl rfl ?_
          refine rx_p (L2 := [some (.ref 51), some (.int a1), some (.int a2), some (.int a3), some (.int a4), some (.int a5), some (.int a6), some (.int a7)]) (S2 := [.int a3, .int a2, .int ((m7.1 63 a7.toNatClampNeg) + (m7.1 64 a7.toNatClampNeg)), .int a1, .ref 51]) (pc2 := 81) op76_80 rfl rfl ?_
          refine rx_p (L2 := [some (.ref 51), some (.int a1), some (.int a2), some (.int a3), some (.int a4), some (.int a5), some (.int a6), some (.int a7)]) (S2 := [.int a4, .int a3, .int a2, .int ((m7.1 63 a7.toNatClampNeg) + (m7.1 64 a7.toNatClampNeg)), .int a1, .ref 51]) (pc2 := 83) op76_81 rfl rfl ?_
          refine rx_p (L2 := [some (.ref 51), some (.int a1), some (.int a2), some (.int a3), some (.int a4), some (.int a5), some (.int a6), some (.int a7)]) (S2 := [.int a5, .int a4, .int a3, .int a2, .int ((m7.1 63 a7.toNatClampNeg) + (m7.1 64 a7.toNatClampNeg)), .int a1, .ref 51]) (pc2 := 85) op76_83 rfl rfl ?_
          refine rx_p (L2 := [some (.ref 51), some (.int a1), some (.int a2), some (.int a3), some (.int a4), some (.int a5), some (.int a6), some (.int a7)]) (S2 := [.int a6, .int a5, .int a4, .int a3, .int a2, .int ((m7.1 63 a7.toNatClampNeg) + (m7.1 64 a7.toNatClampNeg)), .int a1, .ref 51]) (pc2 := 87) op76_85 rfl rfl ?_
          obtain ⟨m11, f12, gc40⟩ := rq_bind gc40
          try dsimp only at gc40
          refine ry_iv (p := 51) (vs := [.int a1, .int ((m7.1 63 a7.toNatClampNeg) + (m7.1 64 a7.toNatClampNeg)), .int a2, .int a3, .int a4, .int a5, .int a6]) (T := []) (pc2 := 90) op76_87 ms_77 (by decide) rfl rfl (Nat.le_of_ble_eq_true rfl) (Nat.le_of_ble_eq_true rfl) sp_51 (se_layTrick_ok xs hd hrec  f12) rfl ?_
          show rn_R _ _ _ _ _ [] _ _ _
          refine rx_p (L2 := [some (.ref 51), some (.int a1), some (.int a2), some (.int a3), some (.int a4), some (.int a5), some (.int a6), some (.int a7)]) (S2 := [.ref 51]) (pc2 := 91) op76_90 rfl rfl ?_
          refine rx_gf (v := .ref 64) (pc2 := 94) op76_91 sp_51 rfl rfl rfl ?_
          refine rx_p (L2 := [some (.ref 51), some (.int a1), some (.int a2), some (.int a3), some (.int a4), some (.int a5), some (.int a6), some (.int a7)]) (S2 := [.int a7, .ref 64]) (pc2 := 96) op76_94 rfl rfl ?_
          refine rx_p (L2 := [some (.ref 51), some (.int a1), some (.int a2), some (.int a3), some (.int a4), some (.int a5), some (.int a6), some (.int a7)]) (S2 := [.int a7, .ref 64, .int a7, .ref 64]) (pc2 := 97) op76_96 rfl rfl ?_
          obtain ⟨k13, gc40⟩ := rq_chk gc40
          refine rx_ia (pc2 := 98) op76_97 (rn_shlt sp_64) sp_64 k13 rfl rfl ?_
          refine rx_ic (v := 1) (pc2 := 99) op76_98 (by decide) rfl ?_
          refine rx_p (L2 := [some (.ref 51), some (.int a1), some (.int a2), some (.int a3), some (.int a4), some (.int a5), some (.int a6), some (.int a7)]) (S2 := [.int ((m11.1 64 a7.toNatClampNeg) + 1), .int a7, .ref 64]) (pc2 := 100) op76_99 rfl rfl ?_
          obtain ⟨k15, gc40⟩ := rq_chk gc40
          obtain ⟨m14, em14, gc40⟩ := rq_bv gc40
          refine rx_is (m2 := m14) (pc2 := 101) op76_100 sp_64 k15 rfl em14 rfl ?_
          cases gc40
          exact c40 ()
        · have gc40 := (if_neg b5).symm.trans gc40
          refine rx_p (L2 := [some (.ref 51), some (.int a1), some (.int a2), some (.int a3), some (.int a4), some (.int a5), some (.int a6), some (.int a7)]) (S2 := [.int a2]) (pc2 := 42) op76_41 rfl rfl ?_
          refine ry_if_lt (tgt := 51) (pc2 := 45) op76_42 (by decide) (by decide) rfl (fun b16 => ?_) (fun b16 => ?_)
          · have gc40 := (if_pos b16).symm.trans gc40
            refine rx_p (L2 := [some (.ref 51), some (.int a1), some (.int a2), some (.int a3), some (.int a4), some (.int a5), some (.int a6), some (.int a7)]) (S2 := [.ref 51]) (pc2 := 52) op76_51 rfl rfl ?_
            refine rx_gf (v := .ref 64) (pc2 := 55) op76_52 sp_51 rfl rfl rfl ?_
            refine rx_p (L2 := [some (.ref 51), some (.int a1), some (.int a2), some (.int a3), some (.int a4), some (.int a5), some (.int a6), some (.int a7)]) (S2 := [.int a7, .ref 64]) (pc2 := 57) op76_55 rfl rfl ?_
            refine rx_p (L2 := [some (.ref 51), some (.int a1), some (.int a2), some (.int a3), some (.int a4), some (.int a5), some (.int a6), some (.int a7)]) (S2 := [.int a7, .ref 64, .int a7, .ref 64]) (pc2 := 58) op76_57 rfl rfl ?_
            obtain ⟨k17, gc40⟩ := rq_chk gc40
            refine rx_ia (pc2 := 59) op76_58 (rn_shlt sp_64) sp_64 k17 rfl rfl ?_
            refine rx_ic (v := 1) (pc2 := 60) op76_59 (by decide) rfl ?_
            refine rx_p (L2 := [some (.ref 51), some (.int a1), some (.int a2), some (.int a3), some (.int a4), some (.int a5), some (.int a6), some (.int a7)]) (S2 := [.int ((m.1 64 a7.toNatClampNeg) - 1), .int a7, .ref 64]) (pc2 := 61) op76_60 rfl rfl ?_
            obtain ⟨k19, gc40⟩ := rq_chk gc40
            obtain ⟨m18, em18, gc40⟩ := rq_bv gc40
            refine rx_is (m2 := m18) (pc2 := 62) op76_61 sp_64 k19 rfl em18 rfl ?_
            refine rx_p (L2 := [some (.ref 51), some (.int a1), some (.int a2), some (.int a3), some (.int a4), some (.int a5), some (.int a6), some (.int a7)]) (S2 := [.ref 51]) (pc2 := 63) op76_62 rfl rfl ?_
            refine rx_p (L2 := [some (.ref 51), some (.int a1), some (.int a2), some (.int a3), some (.int a4), some (.int a5), some (.int a6), some (.int a7)]) (S2 := [.int a1, .ref 51]) (pc2 := 64) op76_63 rfl rfl ?_
            refine rx_p (L2 := [some (.ref 51), some (.int a1), some (.int a2), some (.int a3), some (.int a4), some (.int a5), some (.int a6), some (.int a7)]) (S2 := [.ref 51, .int a1, .ref 51]) (pc2 := 65) op76_64 rfl rfl ?_
            refine rx_gf (v := .ref 63) (pc2 := 68) op76_65 sp_51 rfl rfl rfl ?_
            refine rx_p (L2 := [some (.ref 51), some (.int a1), some (.int a2), some (.int a3), some (.int a4), some (.int a5), some (.int a6), some (.int a7)]) (S2 := [.int a7, .ref 63, .int a1, .ref 51]) (pc2 := 70) op76_68 rfl rfl ?_
            obtain ⟨k20, gc40⟩ := rq_chk gc40
            refine rx_ia (pc2 := 71) op76_70 (rn_shlt sp_63) sp_63 k20 rfl rfl ?_
            refine rx_p (L2 := [some (.ref 51), some (.int a1), some (.int a2), some (.int a3), some (.int a4), some (.int a5), some (.int a6), some (.int a7)]) (S2 := [.ref 51, .int (m18.1 63 a7.toNatClampNeg), .int a1, .ref 51]) (pc2 := 72) op76_71 rfl rfl ?_
            refine rx_gf (v := .ref 64) (pc2 := 75) op76_72 sp_51 rfl rfl rfl ?_
            refine rx_p (L2 := [some (.ref 51), some (.int a1), some (.int a2), some (.int a3), some (.int a4), some (.int a5), some (.int a6), some (.int a7)]) (S2 := [.int a7, .ref 64, .int (m18.1 63 a7.toNatClampNeg), .int a1, .ref 51]) (pc2 := 77) op76_75 rfl rfl ?_
            obtain ⟨k21, gc40⟩ := rq_chk gc40
            refine rx_ia (pc2 := 78) op76_77 (rn_shlt sp_64) sp_64 k21 rfl rfl ?_
            refine rx_p (L2 := [some (.ref 51), some (.int a1), some (.int a2), some (.int a3), some (.int a4), some (.int a5), some (.int a6), some (.int a7)]) (S2 := [.int ((m18.1 63 a7.toNatClampNeg) + (m18.1 64 a7.toNatClampNeg)), .int a1, .ref 51]) (pc2 := 79) op76_78 rfl rfl ?_
            refine rx_p (L2 := [some (.ref 51), some (.int a1), some (.int a2), some (.int a3), some (.int a4), some (.int a5), some (.int a6), some (.int a7)]) (S2 := [.int a2, .int ((m18.1 63 a7.toNatClampNeg) + (m18.1 64 a7.toNatClampNeg)), .int a1, .ref 51]) (pc2 := 80) op76_79 rfl rfl ?_
            refine rx_p (L2 := [some (.ref 51), some (.int a1), some (.int a2), some (.int a3), some (.int a4), some (.int a5), some (.int a6), some (.int a7)]) (S2 := [.int a3, .int a2, .int ((m18.1 63 a7.toNatClampNeg) + (m18.1 64 a7.toNatClampNeg)), .int a1, .ref 51]) (pc2 := 81) op76_80 rfl rfl ?_
            refine rx_p (L2 := [some (.ref 51), some (.int a1), some (.int a2), some (.int a3), some (.int a4), some (.int a5), some (.int a6), some (.int a7)]) (S2 := [.int a4, .int a3, .int a2, .int ((m18.1 63 a7.toNatClampNeg) + (m18.1 64 a7.toNatClampNeg)), .int a1, .ref 51]) (pc2 := 83) op76_81 rfl rfl ?_
            refine rx_p (L2 := [some (.ref 51), some (.int a1), some (.int a2), some (.int a3), some (.int a4), some (.int a5), some (.int a6), some (.int a7)]) (S2 := [.int a5, .int a4, .int a3, .int a2, .int ((m18.1 63 a7.toNatClampNeg) + (m18.1 64 a7.toNatClampNeg)), .int a1, .ref 51]) (pc2 := 85) op76_83 rfl rfl ?_
            refine rx_p (L2 := [some (.ref 51), some (.int a1), some (.int a2), some (.int a3), some (.int a4), some (.int a5), some (.int a6), some (.int a7)]) (S2 := [.int a6, .int a5, .int a4, .int a3, .int a2, .int ((m18.1 63 a7.toNatClampNeg) + (m18.1 64 a7.toNatClampNeg)), .int a1, .ref 51]) (pc2 := 87) op76_85 rfl rfl ?_
            obtain ⟨m22, f23, gc40⟩ := rq_bind gc40
            try dsimp only at gc40
            refine ry_iv (p := 51) (vs := [.int a1, .int ((m18.1 63 a7.toNatClampNeg) + (m18.1 64 a7.toNatClampNeg)), .int a2, .int a3, .int a4, .int a5, .int a6]) (T := []) (pc2 := 90) op76_87 ms_77 (by decide) rfl rfl (Nat.le_of_ble_eq_true rfl) (Nat.le_of_ble_eq_true rfl) sp_51 (se_layTrick_ok xs hd hrec  f23) rfl ?_
            show rn_R _ _ _ _ _ [] _ _ _
            refine rx_p (L2 := [some (.ref 51), some (.int a1), some (.int a2), some (.int a3), some (.int a4), some (.int a5), some (.int a6), some (.int a7)]) (S2 := [.ref 51]) (pc2 := 91) op76_90 rfl rfl ?_
            refine rx_gf (v := .ref 64) (pc2 := 94) op76_91 sp_51 rfl rfl rfl ?_
            refine rx_p (L2 := [some (.ref 51), some (.int a1), some (.int a2), some (.int a3), some (.int a4), some (.int a5), some (.int a6), some (.int a7)]) (S2 := [.int a7, .ref 64]) (pc2 := 96) op76_94 rfl rfl ?_
            refine rx_p (L2 := [some (.ref 51), some (.int a1), some (.int a2), some (.int a3), some (.int a4), some (.int a5), some (.int a6), some (.int a7)]) (S2 := [.int a7, .ref 64, .int a7, .ref 64]) (pc2 := 97) op76_96 rfl rfl ?_
            obtain ⟨k24, gc40⟩ := rq_chk gc40
            refine rx_ia (pc2 := 98) op76_97 (rn_shlt sp_64) sp_64 k24 rfl rfl ?_
            refine rx_ic (v := 1) (pc2 := 99) op76_98 (by decide) rfl ?_
            refine rx_p (L2 := [some (.ref 51), some (.int a1), some (.int a2), some (.int a3), some (.int a4), some (.int a5), some (.int a6), some (.int a7)]) (S2 := [.int ((m22.1 64 a7.toNatClampNeg) + 1), .int a7, .ref 64]) (pc2 := 100) op76_99 rfl rfl ?_
            obtain ⟨k26, gc40⟩ := rq_chk gc40
            obtain ⟨m25, em25, gc40⟩ := rq_bv gc40
            refine rx_is (m2 := m25) (pc2 := 101) op76_100 sp_64 k26 rfl em25 rfl ?_
            cases gc40
            exact c40 ()
          · have gc40 := (if_neg b16).symm.trans gc40
            refine rx_p (L2 := [some (.ref 51), some (.int a1), some (.int a2), some (.int a3), some (.int a4), some (.int a5), some (.int a6), some (.int a7)]) (S2 := [.int a7]) (pc2 := 47) op76_45 rfl rfl ?_
            refine rx_p (L2 := [some (.ref 51), some (.int a1), some (.int a2), some (.int a3), some (.int a4), some (.int a5), some (.int a6), some (.int a7)]) (S2 := [.int a2, .int a7]) (pc2 := 48) op76_47 rfl rfl ?_
            refine ry_ic_ne (tgt := 101) (pc2 := 51) op76_48 (by decide) (by decide) rfl (fun b27 => ?_) (fun b27 => ?_)
            · have gc40 := (if_pos b27).symm.trans gc40
              refine rx_p (L2 := [some (.ref 51), some (.int a1), some (.int a2), some (.int a3), some (.int a4), some (.int a5), some (.int a6), some (.int a7)]) (S2 := [.ref 51]) (pc2 := 52) op76_51 rfl rfl ?_
              refine rx_gf (v := .ref 64) (pc2 := 55) op76_52 sp_51 rfl rfl rfl ?_
              refine rx_p (L2 := [some (.ref 51), some (.int a1), some (.int a2), some (.int a3), some (.int a4), some (.int a5), some (.int a6), some (.int a7)]) (S2 := [.int a7, .ref 64]) (pc2 := 57) op76_55 rfl rfl ?_
              refine rx_p (L2 := [some (.ref 51), some (.int a1), some (.int a2), some (.int a3), some (.int a4), some (.int a5), some (.int a6), some (.int a7)]) (S2 := [.int a7, .ref 64, .int a7, .ref 64]) (pc2 := 58) op76_57 rfl rfl ?_
              obtain ⟨k28, gc40⟩ := rq_chk gc40
              refine rx_ia (pc2 := 59) op76_58 (rn_shlt sp_64) sp_64 k28 rfl rfl ?_
              refine rx_ic (v := 1) (pc2 := 60) op76_59 (by decide) rfl ?_
              refine rx_p (L2 := [some (.ref 51), some (.int a1), some (.int a2), some (.int a3), some (.int a4), some (.int a5), some (.int a6), some (.int a7)]) (S2 := [.int ((m.1 64 a7.toNatClampNeg) - 1), .int a7, .ref 64]) (pc2 := 61) op76_60 rfl rfl ?_
              obtain ⟨k30, gc40⟩ := rq_chk gc40
              obtain ⟨m29, em29, gc40⟩ := rq_bv gc40
              refine rx_is (m2 := m29) (pc2 := 62) op76_61 sp_64 k30 rfl em29 rfl ?_
              refine rx_p (L2 := [some (.ref 51), some (.int a1), some (.int a2), some (.int a3), some (.int a4), some (.int a5), some (.int a6), some (.int a7)]) (S2 := [.ref 51]) (pc2 := 63) op76_62 rfl rfl ?_
              refine rx_p (L2 := [some (.ref 51), some (.int a1), some (.int a2), some (.int a3), some (.int a4), some (.int a5), some (.int a6), some (.int a7)]) (S2 := [.int a1, .ref 51]) (pc2 := 64) op76_63 rfl rfl ?_
              refine rx_p (L2 := [some (.ref 51), some (.int a1), some (.int a2), some (.int a3), some (.int a4), some (.int a5), some (.int a6), some (.int a7)]) (S2 := [.ref 51, .int a1, .ref 51]) (pc2 := 65) op76_64 rfl rfl ?_
              refine rx_gf (v := .ref 63) (pc2 := 68) op76_65 sp_51 rfl rfl rfl ?_
              refine rx_p (L2 := [some (.ref 51), some (.int a1), some (.int a2), some (.int a3), some (.int a4), some (.int a5), some (.int a6), some (.int a7)]) (S2 := [.int a7, .ref 63, .int a1, .ref 51]) (pc2 := 70) op76_68 rfl rfl ?_
              obtain ⟨k31, gc40⟩ := rq_chk gc40
              refine rx_ia (pc2 := 71) op76_70 (rn_shlt sp_63) sp_63 k31 rfl rfl ?_
              refine rx_p (L2 := [some (.ref 51), some (.int a1), some (.int a2), some (.int a3), some (.int a4), some (.int a5), some (.int a6), some (.int a7)]) (S2 := [.ref 51, .int (m29.1 63 a7.toNatClampNeg), .int a1, .ref 51]) (pc2 := 72) op76_71 rfl rfl ?_
              refine rx_gf (v := .ref 64) (pc2 := 75) op76_72 sp_51 rfl rfl rfl ?_
              refine rx_p (L2 := [some (.ref 51), some (.int a1), some (.int a2), some (.int a3), some (.int a4), some (.int a5), some (.int a6), some (.int a7)]) (S2 := [.int a7, .ref 64, .int (m29.1 63 a7.toNatClampNeg), .int a1, .ref 51]) (pc2 := 77) op76_75 rfl rfl ?_
              obtain ⟨k32, gc40⟩ := rq_chk gc40
              refine rx_ia (pc2 := 78) op76_77 (rn_shlt sp_64) sp_64 k32 rfl rfl ?_
              refine rx_p (L2 := [some (.ref 51), some (.int a1), some (.int a2), some (.int a3), some (.int a4), some (.int a5), some (.int a6), some (.int a7)]) (S2 := [.int ((m29.1 63 a7.toNatClampNeg) + (m29.1 64 a7.toNatClampNeg)), .int a1, .ref 51]) (pc2 := 79) op76_78 rfl rfl ?_
              refine rx_p (L2 := [some (.ref 51), some (.int a1), some (.int a2), some (.int a3), some (.int a4), some (.int a5), some (.int a6), some (.int a7)]) (S2 := [.int a2, .int ((m29.1 63 a7.toNatClampNeg) + (m29.1 64 a7.toNatClampNeg)), .int a1, .ref 51]) (pc2 := 80) op76_79 rfl rfl ?_
              refine rx_p (L2 := [some (.ref 51), some (.int a1), some (.int a2), some (.int a3), some (.int a4), some (.int a5), some (.int a6), some (.int a7)]) (S2 := [.int a3, .int a2, .int ((m29.1 63 a7.toNatClampNeg) + (m29.1 64 a7.toNatClampNeg)), .int a1, .ref 51]) (pc2 := 81) op76_80 rfl rfl ?_
              refine rx_p (L2 := [some (.ref 51), some (.int a1), some (.int a2), some (.int a3), some (.int a4), some (.int a5), some (.int a6), some (.int a7)]) (S2 := [.int a4, .int a3, .int a2, .int ((m29.1 63 a7.toNatClampNeg) + (m29.1 64 a7.toNatClampNeg)), .int a1, .ref 51]) (pc2 := 83) op76_81 rfl rfl ?_
              refine rx_p (L2 := [some (.ref 51), some (.int a1), some (.int a2), some (.int a3), some (.int a4), some (.int a5), some (.int a6), some (.int a7)]) (S2 := [.int a5, .int a4, .int a3, .int a2, .int ((m29.1 63 a7.toNatClampNeg) + (m29.1 64 a7.toNatClampNeg)), .int a1, .ref 51]) (pc2 := 85) op76_83 rfl rfl ?_
              refine rx_p (L2 := [some (.ref 51), some (.int a1), some (.int a2), some (.int a3), some (.int a4), some (.int a5), some (.int a6), some (.int a7)]) (S2 := [.int a6, .int a5, .int a4, .int a3, .int a2, .int ((m29.1 63 a7.toNatClampNeg) + (m29.1 64 a7.toNatClampNeg)), .int a1, .ref 51]) (pc2 := 87) op76_85 rfl rfl ?_
              obtain ⟨m33, f34, gc40⟩ := rq_bind gc40
              try dsimp only at gc40
              refine ry_iv (p := 51) (vs := [.int a1, .int ((m29.1 63 a7.toNatClampNeg) + (m29.1 64 a7.toNatClampNeg)), .int a2, .int a3, .int a4, .int a5, .int a6]) (T := []) (pc2 := 90) op76_87 ms_77 (by decide) rfl rfl (Nat.le_of_ble_eq_true rfl) (Nat.le_of_ble_eq_true rfl) sp_51 (se_layTrick_ok xs hd hrec  f34) rfl ?_
              show rn_R _ _ _ _ _ [] _ _ _
              refine rx_p (L2 := [some (.ref 51), some (.int a1), some (.int a2), some (.int a3), some (.int a4), some (.int a5), some (.int a6), some (.int a7)]) (S2 := [.ref 51]) (pc2 := 91) op76_90 rfl rfl ?_
              refine rx_gf (v := .ref 64) (pc2 := 94) op76_91 sp_51 rfl rfl rfl ?_
              refine rx_p (L2 := [some (.ref 51), some (.int a1), some (.int a2), some (.int a3), some (.int a4), some (.int a5), some (.int a6), some (.int a7)]) (S2 := [.int a7, .ref 64]) (pc2 := 96) op76_94 rfl rfl ?_
              refine rx_p (L2 := [some (.ref 51), some (.int a1), some (.int a2), some (.int a3), some (.int a4), some (.int a5), some (.int a6), some (.int a7)]) (S2 := [.int a7, .ref 64, .int a7, .ref 64]) (pc2 := 97) op76_96 rfl rfl ?_
              obtain ⟨k35, gc40⟩ := rq_chk gc40
              refine rx_ia (pc2 := 98) op76_97 (rn_shlt sp_64) sp_64 k35 rfl rfl ?_
              refine rx_ic (v := 1) (pc2 := 99) op76_98 (by decide) rfl ?_
              refine rx_p (L2 := [some (.ref 51), some (.int a1), some (.int a2), some (.int a3), some (.int a4), some (.int a5), some (.int a6), some (.int a7)]) (S2 := [.int ((m33.1 64 a7.toNatClampNeg) + 1), .int a7, .ref 64]) (pc2 := 100) op76_99 rfl rfl ?_
              obtain ⟨k37, gc40⟩ := rq_chk gc40
              obtain ⟨m36, em36, gc40⟩ := rq_bv gc40
              refine rx_is (m2 := m36) (pc2 := 101) op76_100 sp_64 k37 rfl em36 rfl ?_
              cases gc40
              exact c40 ()
            · have gc40 := (if_neg b27).symm.trans gc40
              cases gc40
              exact c40 ()
      · have gc40 := (if_neg b4).symm.trans gc40
        cases gc40
        exact c40 ()
    · have h := (if_neg b2).symm.trans h
      cases h
      exact hr _ rfl _ _ _ _ _ _ _ _
set_option maxHeartbeats 4000000 in
set_option maxRecDepth 20000 in
theorem se_lay_1_ok (xs : List Int32) {d : Nat} (hd : 3 ≤ d) {rec : Int32 → Int32 → Int32 → Int32 → Int32 → Int32 → rn_Mem → Option (rn_Mem)} (hrec : ∀ {a1 : Int32} {a2 : Int32} {a3 : Int32} {a4 : Int32} {a5 : Int32} {a6 : Int32} {mI mO : rn_Mem} , rec a1 a2 a3 a4 a5 a6 mI = some mO → rn_R xs d 76 0 (rn_ent 8 [.ref 51, .int a1, .int a2, .int a3, .int a4, .int a5, .int a6]) [] (rn_SH, mI) none (rn_SH, mO)) {n : Nat} {a1 : Int32} {a2 : Int32} {a3 : Int32} {a4 : Int32} {a5 : Int32} {a6 : Int32} {m mO : rn_Mem} (h : se_lay_1 rec n a1 a2 a3 a4 a5 a6 m = some mO) : rn_R xs (d + 2) 76 0 (rn_ent 8 [.ref 51, .int a1, .int a2, .int a3, .int a4, .int a5, .int a6]) [] (rn_SH, m) none (rn_SH, mO) := by
  unfold se_lay_1 at h
  show rn_R xs (d + 2) 76 0 [some (.ref 51), some (.int a1), some (.int a2), some (.int a3), some (.int a4), some (.int a5), some (.int a6), none] [] (rn_SH, m) none (rn_SH, mO)
  refine rx_p (L2 := [some (.ref 51), some (.int a1), some (.int a2), some (.int a3), some (.int a4), some (.int a5), some (.int a6), none]) (S2 := [.int a1]) (pc2 := 1) op76_0 rfl rfl ?_
  refine ry_if_ge (tgt := 5) (pc2 := 4) op76_1 (by decide) (by decide) rfl (fun b1 => ?_) (fun b1 => ?_)
  · have h := (if_pos b1).symm.trans h
    obtain rfl := Option.some.inj h
    exact ry_rv op76_4 ms_76 rfl
  · have h := (if_neg b1).symm.trans h
    refine rx_ic (v := 0) (pc2 := 6) op76_5 (by decide) rfl ?_
    refine rx_s (L2 := [some (.ref 51), some (.int a1), some (.int a2), some (.int a3), some (.int a4), some (.int a5), some (.int a6), some (.int 0)]) (pc2 := 8) op76_6 rfl rfl rfl ?_
    obtain ⟨m41, f50, h⟩ := rq_bind h
    refine se_lay_l8_ok xs hd hrec (fun m0 eq => ?_) _ _ _  f50
    subst eq
    try dsimp only at h
    intro o42 o43 o44 o45 o46 o47 o48 o49
    obtain rfl := Option.some.inj h
    exact ry_rv op76_107 ms_76 rfl
set_option maxHeartbeats 4000000 in
set_option maxRecDepth 20000 in
theorem se_lay_ok (xs : List Int32) : ∀ (k : Nat) {d : Nat} (hd : 2 * k + 3 ≤ d) {n : Nat} {a1 : Int32} {a2 : Int32} {a3 : Int32} {a4 : Int32} {a5 : Int32} {a6 : Int32} {m mO : rn_Mem} (h : se_lay n k a1 a2 a3 a4 a5 a6 m = some mO), rn_R xs d 76 0 (rn_ent 8 [.ref 51, .int a1, .int a2, .int a3, .int a4, .int a5, .int a6]) [] (rn_SH, m) none (rn_SH, mO)
  | 0, d, hd, n, a1, a2, a3, a4, a5, a6, m, mO, h => by cases h
  | k + 1, d, hd, n, a1, a2, a3, a4, a5, a6, m, mO, h => by
    obtain ⟨d, rfl⟩ : ∃ e, d = e + 2 := ⟨d - 2, by omega⟩
    exact se_lay_1_ok xs (by omega) (fun  h => se_lay_ok xs k (by omega)  h)  h
/-! se_noteUnder -/
theorem op88_0 : rn_op 88 0 = some (.iconst 0, 1, 0, 0, 0) := by decide +kernel
theorem op88_1 : rn_op 88 1 = some (.istore_n 1, 1, 0, 0, 0) := by decide +kernel
theorem op88_2 : rn_op 88 2 = some (.iload_n 1, 1, 0, 0, 0) := by decide +kernel
theorem op88_3 : rn_op 88 3 = some (.aload_n 0, 1, 0, 0, 0) := by decide +kernel
theorem op88_4 : rn_op 88 4 = some (.getfield 21, 3, 4, 1, 3) := by decide +kernel
theorem op88_7 : rn_op 88 7 = some (.getfield 113, 3, 7, 6, 0) := by decide +kernel
theorem op88_10 : rn_op 88 10 = some (.if_icmp .ge 39, 3, 0, 0, 0) := by decide +kernel
theorem op88_13 : rn_op 88 13 = some (.iload_n 1, 1, 0, 0, 0) := by decide +kernel
theorem op88_14 : rn_op 88 14 = some (.iconst 3, 1, 0, 0, 0) := by decide +kernel
theorem op88_15 : rn_op 88 15 = some (.if_icmp .ge 34, 3, 0, 0, 0) := by decide +kernel
theorem op88_18 : rn_op 88 18 = some (.aload_n 0, 1, 0, 0, 0) := by decide +kernel
theorem op88_19 : rn_op 88 19 = some (.getfield 54, 3, 4, 18, 3) := by decide +kernel
theorem op88_22 : rn_op 88 22 = some (.iload_n 1, 1, 0, 0, 0) := by decide +kernel
theorem op88_23 : rn_op 88 23 = some (.dup2, 1, 0, 0, 0) := by decide +kernel
theorem op88_24 : rn_op 88 24 = some (.iaload, 1, 0, 0, 0) := by decide +kernel
theorem op88_25 : rn_op 88 25 = some (.iconst 1, 1, 0, 0, 0) := by decide +kernel
theorem op88_26 : rn_op 88 26 = some (.aload_n 0, 1, 0, 0, 0) := by decide +kernel
theorem op88_27 : rn_op 88 27 = some (.getfield 21, 3, 4, 1, 3) := by decide +kernel
theorem op88_30 : rn_op 88 30 = some (.getfield 120, 3, 7, 3, 3) := by decide +kernel
theorem op88_33 : rn_op 88 33 = some (.aload_n 0, 1, 0, 0, 0) := by decide +kernel
theorem op88_34 : rn_op 88 34 = some (.getfield 45, 3, 4, 6, 3) := by decide +kernel
theorem op88_37 : rn_op 88 37 = some (.iload_n 1, 1, 0, 0, 0) := by decide +kernel
theorem op88_38 : rn_op 88 38 = some (.iaload, 1, 0, 0, 0) := by decide +kernel
theorem op88_39 : rn_op 88 39 = some (.iaload, 1, 0, 0, 0) := by decide +kernel
theorem op88_40 : rn_op 88 40 = some (.ishl, 1, 0, 0, 0) := by decide +kernel
theorem op88_41 : rn_op 88 41 = some (.ior, 1, 0, 0, 0) := by decide +kernel
theorem op88_42 : rn_op 88 42 = some (.iastore, 1, 0, 0, 0) := by decide +kernel
theorem op88_43 : rn_op 88 43 = some (.iinc 1 1, 3, 0, 0, 0) := by decide +kernel
theorem op88_46 : rn_op 88 46 = some (.goto (-44), 3, 0, 0, 0) := by decide +kernel
theorem op88_49 : rn_op 88 49 = some (.return_, 1, 0, 0, 0) := by decide +kernel
def se_noteUnder_l2  : Nat → Int32 → rn_Mem → Option (rn_Mem)
  | 0, _, _ => none
  | n + 1, a1, m =>
    if a1 < (m.1 53 6) then
      if a1 < 3 then
        if rn_in a1 3 = true then
          if rn_in a1 3 = true then
            if rn_in (m.1 65 a1.toNatClampNeg) 48 = true then
              if rn_in a1 3 = true then
                (some (rm_i m 68 a1.toNatClampNeg ((m.1 68 a1.toNatClampNeg) ||| ((1 : Int32) <<< ((m.1 56 (m.1 65 a1.toNatClampNeg).toNatClampNeg) &&& 31))))).bind fun (m6 : rn_Mem) =>
                (some (a1 + 1)).bind fun (x8 : Int32) =>
                se_noteUnder_l2 n x8 m6
              else none
            else none
          else none
        else none
      else
        some m
    else
      some m
def se_noteUnder (n : Nat)  (m : rn_Mem) : Option (rn_Mem) :=
  (se_noteUnder_l2 n 0 m).bind fun m9 =>
  some m9
set_option maxHeartbeats 4000000 in
set_option maxRecDepth 20000 in
theorem se_noteUnder_l2_ok (xs : List Int32) {d : Nat} {r : Option Value} {τ : rn_H} {out : rn_Mem} (hr : ∀ (mO : rn_Mem), out = mO → ∀ (o0 o1 : Option Value), rn_R xs d 88 49 [o0, o1] [] (rn_SH, mO) r τ) : ∀ (n : Nat) (a1 : Int32) (m : rn_Mem), se_noteUnder_l2 n a1 m = some out → rn_R xs d 88 2 [some (.ref 51), some (.int a1)] [] (rn_SH, m) r τ := by
  intro n
  induction n with
  | zero =>
    intro _ _ h
    cases h
  | succ n ih =>
    intro a1 m h
    unfold se_noteUnder_l2 at h
    try dsimp only at h
    refine rx_p (L2 := [some (.ref 51), some (.int a1)]) (S2 := [.int a1]) (pc2 := 3) op88_2 rfl rfl ?_
    refine rx_p (L2 := [some (.ref 51), some (.int a1)]) (S2 := [.ref 51, .int a1]) (pc2 := 4) op88_3 rfl rfl ?_
    refine rx_gf (v := .ref 53) (pc2 := 7) op88_4 sp_51 rfl rfl rfl ?_
    refine rx_gf (v := .int (m.1 53 6)) (pc2 := 10) op88_7 sp_53 rfl rfl rfl ?_
    refine ry_ic_ge (tgt := 49) (pc2 := 13) op88_10 (by decide) (by decide) rfl (fun b1 => ?_) (fun b1 => ?_)
    · have h := (if_pos b1).symm.trans h
      refine rx_p (L2 := [some (.ref 51), some (.int a1)]) (S2 := [.int a1]) (pc2 := 14) op88_13 rfl rfl ?_
      refine rx_ic (v := 3) (pc2 := 15) op88_14 (by decide) rfl ?_
      refine ry_ic_ge (tgt := 49) (pc2 := 18) op88_15 (by decide) (by decide) rfl (fun b2 => ?_) (fun b2 => ?_)
      · have h := (if_pos b2).symm.trans h
        refine rx_p (L2 := [some (.ref 51), some (.int a1)]) (S2 := [.ref 51]) (pc2 := 19) op88_18 rfl rfl ?_
        refine rx_gf (v := .ref 68) (pc2 := 22) op88_19 sp_51 rfl rfl rfl ?_
        refine rx_p (L2 := [some (.ref 51), some (.int a1)]) (S2 := [.int a1, .ref 68]) (pc2 := 23) op88_22 rfl rfl ?_
        refine rx_p (L2 := [some (.ref 51), some (.int a1)]) (S2 := [.int a1, .ref 68, .int a1, .ref 68]) (pc2 := 24) op88_23 rfl rfl ?_
        obtain ⟨k3, h⟩ := rq_chk h
        refine rx_ia (pc2 := 25) op88_24 (rn_shlt sp_68) sp_68 k3 rfl rfl ?_
        refine rx_ic (v := 1) (pc2 := 26) op88_25 (by decide) rfl ?_
        refine rx_p (L2 := [some (.ref 51), some (.int a1)]) (S2 := [.ref 51, .int 1, .int (m.1 68 a1.toNatClampNeg), .int a1, .ref 68]) (pc2 := 27) op88_26 rfl rfl ?_
        refine rx_gf (v := .ref 53) (pc2 := 30) op88_27 sp_51 rfl rfl rfl ?_
        refine rx_gf (v := .ref 56) (pc2 := 33) op88_30 sp_53 rfl rfl rfl ?_
        refine rx_p (L2 := [some (.ref 51), some (.int a1)]) (S2 := [.ref 51, .ref 56, .int 1, .int (m.1 68 a1.toNatClampNeg), .int a1, .ref 68]) (pc2 := 34) op88_33 rfl rfl ?_
        refine rx_gf (v := .ref 65) (pc2 := 37) op88_34 sp_51 rfl rfl rfl ?_
        refine rx_p (L2 := [some (.ref 51), some (.int a1)]) (S2 := [.int a1, .ref 65, .ref 56, .int 1, .int (m.1 68 a1.toNatClampNeg), .int a1, .ref 68]) (pc2 := 38) op88_37 rfl rfl ?_
        obtain ⟨k4, h⟩ := rq_chk h
        refine rx_ia (pc2 := 39) op88_38 (rn_shlt sp_65) sp_65 k4 rfl rfl ?_
        obtain ⟨k5, h⟩ := rq_chk h
        refine rx_ia (pc2 := 40) op88_39 (rn_shlt sp_56) sp_56 k5 rfl rfl ?_
        refine rx_p (L2 := [some (.ref 51), some (.int a1)]) (S2 := [.int ((1 : Int32) <<< ((m.1 56 (m.1 65 a1.toNatClampNeg).toNatClampNeg) &&& 31)), .int (m.1 68 a1.toNatClampNeg), .int a1, .ref 68]) (pc2 := 41) op88_40 rfl rfl ?_
        refine rx_p (L2 := [some (.ref 51), some (.int a1)]) (S2 := [.int ((m.1 68 a1.toNatClampNeg) ||| ((1 : Int32) <<< ((m.1 56 (m.1 65 a1.toNatClampNeg).toNatClampNeg) &&& 31))), .int a1, .ref 68]) (pc2 := 42) op88_41 rfl rfl ?_
        obtain ⟨k7, h⟩ := rq_chk h
        obtain ⟨m6, em6, h⟩ := rq_bv h
        refine rx_is (m2 := m6) (pc2 := 43) op88_42 sp_68 k7 rfl em6 rfl ?_
        obtain ⟨x8, ex8, h⟩ := rq_bv h
        refine rx_inc (w := 1) (v := x8) (L2 := [some (.ref 51), some (.int x8)]) (pc2 := 46) op88_43 rfl (by decide) ex8 rfl rfl ?_
        refine ry_go (tgt := 2) op88_46 (by decide) (by decide) ?_
        exact ih _ _ h
      · have h := (if_neg b2).symm.trans h
        cases h
        exact hr _ rfl _ _
    · have h := (if_neg b1).symm.trans h
      cases h
      exact hr _ rfl _ _
set_option maxHeartbeats 4000000 in
set_option maxRecDepth 20000 in
theorem se_noteUnder_ok (xs : List Int32) {d : Nat} (hd : 0 ≤ d) {n : Nat} {m mO : rn_Mem} (h : se_noteUnder n  m = some mO) : rn_R xs d 88 0 (rn_ent 2 [.ref 51]) [] (rn_SH, m) none (rn_SH, mO) := by
  unfold se_noteUnder at h
  show rn_R xs d 88 0 [some (.ref 51), none] [] (rn_SH, m) none (rn_SH, mO)
  refine rx_ic (v := 0) (pc2 := 1) op88_0 (by decide) rfl ?_
  refine rx_s (L2 := [some (.ref 51), some (.int 0)]) (pc2 := 2) op88_1 rfl rfl rfl ?_
  obtain ⟨m9, f12, h⟩ := rq_bind h
  refine se_noteUnder_l2_ok xs (fun m0 eq => ?_) _ _ _  f12
  subst eq
  try dsimp only at h
  intro o10 o11
  obtain rfl := Option.some.inj h
  exact ry_rv op88_49 ms_88 rfl
/-! se_run -/
theorem op64_0 : rn_op 64 0 = some (.aload_n 0, 1, 0, 0, 0) := by decide +kernel
theorem op64_1 : rn_op 64 1 = some (.invokevirtual 110, 3, 65, 1, 4) := by decide +kernel
theorem op64_4 : rn_op 64 4 = some (.aload_n 0, 1, 0, 0, 0) := by decide +kernel
theorem op64_5 : rn_op 64 5 = some (.getfield 21, 3, 4, 1, 3) := by decide +kernel
theorem op64_8 : rn_op 64 8 = some (.getfield 113, 3, 7, 6, 0) := by decide +kernel
theorem op64_11 : rn_op 64 11 = some (.iconst 2, 1, 0, 0, 0) := by decide +kernel
theorem op64_12 : rn_op 64 12 = some (.if_icmp .ge 7, 3, 0, 0, 0) := by decide +kernel
theorem op64_15 : rn_op 64 15 = some (.iconst 1, 1, 0, 0, 0) := by decide +kernel
theorem op64_16 : rn_op 64 16 = some (.goto 20, 3, 0, 0, 0) := by decide +kernel
theorem op64_19 : rn_op 64 19 = some (.aload_n 0, 1, 0, 0, 0) := by decide +kernel
theorem op64_20 : rn_op 64 20 = some (.getfield 21, 3, 4, 1, 3) := by decide +kernel
theorem op64_23 : rn_op 64 23 = some (.getfield 113, 3, 7, 6, 0) := by decide +kernel
theorem op64_26 : rn_op 64 26 = some (.iconst 2, 1, 0, 0, 0) := by decide +kernel
theorem op64_27 : rn_op 64 27 = some (.if_icmp .ne 7, 3, 0, 0, 0) := by decide +kernel
theorem op64_30 : rn_op 64 30 = some (.iconst 2, 1, 0, 0, 0) := by decide +kernel
theorem op64_31 : rn_op 64 31 = some (.goto 5, 3, 0, 0, 0) := by decide +kernel
theorem op64_34 : rn_op 64 34 = some (.bipush 6, 2, 0, 0, 0) := by decide +kernel
theorem op64_36 : rn_op 64 36 = some (.istore_n 1, 1, 0, 0, 0) := by decide +kernel
theorem op64_37 : rn_op 64 37 = some (.iconst 0, 1, 0, 0, 0) := by decide +kernel
theorem op64_38 : rn_op 64 38 = some (.istore_n 2, 1, 0, 0, 0) := by decide +kernel
theorem op64_39 : rn_op 64 39 = some (.iload_n 2, 1, 0, 0, 0) := by decide +kernel
theorem op64_40 : rn_op 64 40 = some (.iload_n 1, 1, 0, 0, 0) := by decide +kernel
theorem op64_41 : rn_op 64 41 = some (.if_icmp .ge 123, 3, 0, 0, 0) := by decide +kernel
theorem op64_44 : rn_op 64 44 = some (.aload_n 0, 1, 0, 0, 0) := by decide +kernel
theorem op64_45 : rn_op 64 45 = some (.invokevirtual 116, 3, 66, 1, 4) := by decide +kernel
theorem op64_48 : rn_op 64 48 = some (.ifCond .ne 116, 3, 0, 0, 0) := by decide +kernel
theorem op64_51 : rn_op 64 51 = some (.aload_n 0, 1, 0, 0, 0) := by decide +kernel
theorem op64_52 : rn_op 64 52 = some (.getfield 80, 3, 4, 12, 1) := by decide +kernel
theorem op64_55 : rn_op 64 55 = some (.lstore_n 3, 1, 0, 0, 0) := by decide +kernel
theorem op64_56 : rn_op 64 56 = some (.iconst 0, 1, 0, 0, 0) := by decide +kernel
theorem op64_57 : rn_op 64 57 = some (.istore 5, 2, 0, 0, 0) := by decide +kernel
theorem op64_59 : rn_op 64 59 = some (.iload 5, 2, 0, 0, 0) := by decide +kernel
theorem op64_61 : rn_op 64 61 = some (.aload_n 0, 1, 0, 0, 0) := by decide +kernel
theorem op64_62 : rn_op 64 62 = some (.getfield 21, 3, 4, 1, 3) := by decide +kernel
theorem op64_65 : rn_op 64 65 = some (.getfield 113, 3, 7, 6, 0) := by decide +kernel
theorem op64_68 : rn_op 64 68 = some (.if_icmp .ge 45, 3, 0, 0, 0) := by decide +kernel
theorem op64_71 : rn_op 64 71 = some (.iload 5, 2, 0, 0, 0) := by decide +kernel
theorem op64_73 : rn_op 64 73 = some (.iconst 3, 1, 0, 0, 0) := by decide +kernel
theorem op64_74 : rn_op 64 74 = some (.if_icmp .ge 39, 3, 0, 0, 0) := by decide +kernel
theorem op64_77 : rn_op 64 77 = some (.aload_n 0, 1, 0, 0, 0) := by decide +kernel
theorem op64_78 : rn_op 64 78 = some (.getfield 21, 3, 4, 1, 3) := by decide +kernel
theorem op64_81 : rn_op 64 81 = some (.getfield 120, 3, 7, 3, 3) := by decide +kernel
theorem op64_84 : rn_op 64 84 = some (.aload_n 0, 1, 0, 0, 0) := by decide +kernel
theorem op64_85 : rn_op 64 85 = some (.getfield 45, 3, 4, 6, 3) := by decide +kernel
theorem op64_88 : rn_op 64 88 = some (.iload 5, 2, 0, 0, 0) := by decide +kernel
theorem op64_90 : rn_op 64 90 = some (.iaload, 1, 0, 0, 0) := by decide +kernel
theorem op64_91 : rn_op 64 91 = some (.aload_n 0, 1, 0, 0, 0) := by decide +kernel
theorem op64_92 : rn_op 64 92 = some (.getfield 48, 3, 4, 7, 3) := by decide +kernel
theorem op64_95 : rn_op 64 95 = some (.getstatic 123, 3, 0, 1, 0) := by decide +kernel
theorem op64_98 : rn_op 64 98 = some (.iconst 3, 1, 0, 0, 0) := by decide +kernel
theorem op64_99 : rn_op 64 99 = some (.iload_n 2, 1, 0, 0, 0) := by decide +kernel
theorem op64_100 : rn_op 64 100 = some (.imul, 1, 0, 0, 0) := by decide +kernel
theorem op64_101 : rn_op 64 101 = some (.iload 5, 2, 0, 0, 0) := by decide +kernel
theorem op64_103 : rn_op 64 103 = some (.iadd, 1, 0, 0, 0) := by decide +kernel
theorem op64_104 : rn_op 64 104 = some (.iaload, 1, 0, 0, 0) := by decide +kernel
theorem op64_105 : rn_op 64 105 = some (.iaload, 1, 0, 0, 0) := by decide +kernel
theorem op64_106 : rn_op 64 106 = some (.iastore, 1, 0, 0, 0) := by decide +kernel
theorem op64_107 : rn_op 64 107 = some (.iinc 5 1, 3, 0, 0, 0) := by decide +kernel
theorem op64_110 : rn_op 64 110 = some (.goto (-51), 3, 0, 0, 0) := by decide +kernel
theorem op64_113 : rn_op 64 113 = some (.aload_n 0, 1, 0, 0, 0) := by decide +kernel
theorem op64_114 : rn_op 64 114 = some (.invokevirtual 126, 3, 67, 1, 4) := by decide +kernel
theorem op64_117 : rn_op 64 117 = some (.aload_n 0, 1, 0, 0, 0) := by decide +kernel
theorem op64_118 : rn_op 64 118 = some (.aload_n 0, 1, 0, 0, 0) := by decide +kernel
theorem op64_119 : rn_op 64 119 = some (.getfield 12, 3, 4, 0, 3) := by decide +kernel
theorem op64_122 : rn_op 64 122 = some (.getfield 129, 3, 1, 2, 0) := by decide +kernel
theorem op64_125 : rn_op 64 125 = some (.iconst 1, 1, 0, 0, 0) := by decide +kernel
theorem op64_126 : rn_op 64 126 = some (.isub, 1, 0, 0, 0) := by decide +kernel
theorem op64_127 : rn_op 64 127 = some (.aload_n 0, 1, 0, 0, 0) := by decide +kernel
theorem op64_128 : rn_op 64 128 = some (.invokevirtual 132, 3, 75, 1, 4) := by decide +kernel
theorem op64_131 : rn_op 64 131 = some (.iconst 0, 1, 0, 0, 0) := by decide +kernel
theorem op64_132 : rn_op 64 132 = some (.iconst 0, 1, 0, 0, 0) := by decide +kernel
theorem op64_133 : rn_op 64 133 = some (.iconst 0, 1, 0, 0, 0) := by decide +kernel
theorem op64_134 : rn_op 64 134 = some (.iconst 0, 1, 0, 0, 0) := by decide +kernel
theorem op64_135 : rn_op 64 135 = some (.invokevirtual 136, 3, 76, 7, 4) := by decide +kernel
theorem op64_138 : rn_op 64 138 = some (.aload_n 0, 1, 0, 0, 0) := by decide +kernel
theorem op64_139 : rn_op 64 139 = some (.getfield 76, 3, 4, 10, 0) := by decide +kernel
theorem op64_142 : rn_op 64 142 = some (.ifCond .ne 16, 3, 0, 0, 0) := by decide +kernel
theorem op64_145 : rn_op 64 145 = some (.aload_n 0, 1, 0, 0, 0) := by decide +kernel
theorem op64_146 : rn_op 64 146 = some (.getfield 80, 3, 4, 12, 1) := by decide +kernel
theorem op64_149 : rn_op 64 149 = some (.lload_n 3, 1, 0, 0, 0) := by decide +kernel
theorem op64_150 : rn_op 64 150 = some (.lcmp, 1, 0, 0, 0) := by decide +kernel
theorem op64_151 : rn_op 64 151 = some (.ifCond .eq 7, 3, 0, 0, 0) := by decide +kernel
theorem op64_154 : rn_op 64 154 = some (.aload_n 0, 1, 0, 0, 0) := by decide +kernel
theorem op64_155 : rn_op 64 155 = some (.invokevirtual 140, 3, 88, 1, 4) := by decide +kernel
theorem op64_158 : rn_op 64 158 = some (.iinc 2 1, 3, 0, 0, 0) := by decide +kernel
theorem op64_161 : rn_op 64 161 = some (.goto (-122), 3, 0, 0, 0) := by decide +kernel
theorem op64_164 : rn_op 64 164 = some (.return_, 1, 0, 0, 0) := by decide +kernel
def se_run_l59 (a1 : Int32) (a2 : Int32) (a3 : Int64) : Nat → Int32 → rn_Mem → Option (rn_Mem)
  | 0, _, _ => none
  | n + 1, a5, m =>
    if a5 < (m.1 53 6) then
      if a5 < 3 then
        if rn_in a5 3 = true then
          if rn_in (((3 : Int32) * a2) + a5) (rn_orders.length) = true then
            if rn_in (rn_orders.getD (((3 : Int32) * a2) + a5).toNatClampNeg 0) 3 = true then
              if rn_in (m.1 65 a5.toNatClampNeg) 48 = true then
                (some (rm_i m 56 (m.1 65 a5.toNatClampNeg).toNatClampNeg (m.1 66 (rn_orders.getD (((3 : Int32) * a2) + a5).toNatClampNeg 0).toNatClampNeg))).bind fun (m22 : rn_Mem) =>
                (some (a5 + 1)).bind fun (x24 : Int32) =>
                se_run_l59 a1 a2 a3 n x24 m22
              else none
            else none
          else none
        else none
      else
        some m
    else
      some m
def se_run_l39 (a1 : Int32) : Nat → Int32 → rn_Mem → Option (rn_Mem)
  | 0, _, _ => none
  | n + 1, a2, m =>
    if a2 < a1 then
      (se_settled n m).bind fun (r13, m12) =>
      if r13 = 0 then
        (some (m12.2 51 12)).bind fun (x16 : Int64) =>
        (se_run_l59 a1 a2 x16 n 0 m12).bind fun m26 =>
        (se_gather n m26).bind fun m29 =>
        (se_lastLeader n m29).bind fun (r32, m31) =>
        (se_lay n 16 ((m29.1 52 2) - 1) r32 0 0 0 0 m31).bind fun m34 =>
        (show Option (rn_Mem) from
          if (m34.1 51 10) = 0 then
            if (lg_cmp (m34.2 51 12) x16) = 0 then
              some (m34)
            else
              (se_noteUnder n m34).bind fun m38 =>
              some (m38)
          else
            some (m34)).bind fun m43 =>
        (some (a2 + 1)).bind fun (x44 : Int32) =>
        se_run_l39 a1 n x44 m43
      else
        some m12
    else
      some m
def se_run (n : Nat)  (m : rn_Mem) : Option (rn_Mem) :=
  (se_listUnseen n m).bind fun m1 =>
  (show Option (Int32) from
    if (m1.1 53 6) < 2 then
      some (1)
    else
      if (m1.1 53 6) = 2 then
        some (2)
      else
        some (6)).bind fun x10 =>
  (se_run_l39 x10 n 0 m1).bind fun m47 =>
  some m47
set_option maxHeartbeats 4000000 in
set_option maxRecDepth 20000 in
theorem se_run_l59_ok (xs : List Int32) {d : Nat} (hd : 38 ≤ d + 1) {a1 : Int32} {a2 : Int32} {a3 : Int64} {r : Option Value} {τ : rn_H} {out : rn_Mem} (hr : ∀ (mO : rn_Mem), out = mO → ∀ (o4 o5 : Option Value), rn_R xs (d + 1) 64 113 [some (.ref 51), some (.int a1), some (.int a2), some (.long a3), o4, o5] [] (rn_SH, mO) r τ) : ∀ (n : Nat) (a5 : Int32) (o4 : Option Value) (m : rn_Mem), se_run_l59 a1 a2 a3 n a5 m = some out → rn_R xs (d + 1) 64 59 [some (.ref 51), some (.int a1), some (.int a2), some (.long a3), o4, some (.int a5)] [] (rn_SH, m) r τ := by
  intro n
  induction n with
  | zero =>
    intro _ _ _ h
    cases h
  | succ n ih =>
    intro a5 o4 m h
    unfold se_run_l59 at h
    try dsimp only at h
    refine rx_p (L2 := [some (.ref 51), some (.int a1), some (.int a2), some (.long a3), o4, some (.int a5)]) (S2 := [.int a5]) (pc2 := 61) op64_59 rfl rfl ?_
    refine rx_p (L2 := [some (.ref 51), some (.int a1), some (.int a2), some (.long a3), o4, some (.int a5)]) (S2 := [.ref 51, .int a5]) (pc2 := 62) op64_61 rfl rfl ?_
    refine rx_gf (v := .ref 53) (pc2 := 65) op64_62 sp_51 rfl rfl rfl ?_
    refine rx_gf (v := .int (m.1 53 6)) (pc2 := 68) op64_65 sp_53 rfl rfl rfl ?_
    refine ry_ic_ge (tgt := 113) (pc2 := 71) op64_68 (by decide) (by decide) rfl (fun b17 => ?_) (fun b17 => ?_)
    · have h := (if_pos b17).symm.trans h
      refine rx_p (L2 := [some (.ref 51), some (.int a1), some (.int a2), some (.long a3), o4, some (.int a5)]) (S2 := [.int a5]) (pc2 := 73) op64_71 rfl rfl ?_
      refine rx_ic (v := 3) (pc2 := 74) op64_73 (by decide) rfl ?_
      refine ry_ic_ge (tgt := 113) (pc2 := 77) op64_74 (by decide) (by decide) rfl (fun b18 => ?_) (fun b18 => ?_)
      · have h := (if_pos b18).symm.trans h
        refine rx_p (L2 := [some (.ref 51), some (.int a1), some (.int a2), some (.long a3), o4, some (.int a5)]) (S2 := [.ref 51]) (pc2 := 78) op64_77 rfl rfl ?_
        refine rx_gf (v := .ref 53) (pc2 := 81) op64_78 sp_51 rfl rfl rfl ?_
        refine rx_gf (v := .ref 56) (pc2 := 84) op64_81 sp_53 rfl rfl rfl ?_
        refine rx_p (L2 := [some (.ref 51), some (.int a1), some (.int a2), some (.long a3), o4, some (.int a5)]) (S2 := [.ref 51, .ref 56]) (pc2 := 85) op64_84 rfl rfl ?_
        refine rx_gf (v := .ref 65) (pc2 := 88) op64_85 sp_51 rfl rfl rfl ?_
        refine rx_p (L2 := [some (.ref 51), some (.int a1), some (.int a2), some (.long a3), o4, some (.int a5)]) (S2 := [.int a5, .ref 65, .ref 56]) (pc2 := 90) op64_88 rfl rfl ?_
        obtain ⟨k19, h⟩ := rq_chk h
        refine rx_ia (pc2 := 91) op64_90 (rn_shlt sp_65) sp_65 k19 rfl rfl ?_
        refine rx_p (L2 := [some (.ref 51), some (.int a1), some (.int a2), some (.long a3), o4, some (.int a5)]) (S2 := [.ref 51, .int (m.1 65 a5.toNatClampNeg), .ref 56]) (pc2 := 92) op64_91 rfl rfl ?_
        refine rx_gf (v := .ref 66) (pc2 := 95) op64_92 sp_51 rfl rfl rfl ?_
        refine rx_gs (pc2 := 98) op64_95 rfl ?_
        refine rx_ic (v := 3) (pc2 := 99) op64_98 (by decide) rfl ?_
        refine rx_p (L2 := [some (.ref 51), some (.int a1), some (.int a2), some (.long a3), o4, some (.int a5)]) (S2 := [.int a2, .int 3, .ref 10000, .ref 66, .int (m.1 65 a5.toNatClampNeg), .ref 56]) (pc2 := 100) op64_99 rfl rfl ?_
        refine rx_p (L2 := [some (.ref 51), some (.int a1), some (.int a2), some (.long a3), o4, some (.int a5)]) (S2 := [.int ((3 : Int32) * a2), .ref 10000, .ref 66, .int (m.1 65 a5.toNatClampNeg), .ref 56]) (pc2 := 101) op64_100 rfl rfl ?_
        refine rx_p (L2 := [some (.ref 51), some (.int a1), some (.int a2), some (.long a3), o4, some (.int a5)]) (S2 := [.int a5, .int ((3 : Int32) * a2), .ref 10000, .ref 66, .int (m.1 65 a5.toNatClampNeg), .ref 56]) (pc2 := 103) op64_101 rfl rfl ?_
        refine rx_p (L2 := [some (.ref 51), some (.int a1), some (.int a2), some (.long a3), o4, some (.int a5)]) (S2 := [.int (((3 : Int32) * a2) + a5), .ref 10000, .ref 66, .int (m.1 65 a5.toNatClampNeg), .ref 56]) (pc2 := 104) op64_103 rfl rfl ?_
        obtain ⟨k20, h⟩ := rq_chk h
        refine rx_ix (pc2 := 105) op64_104 (by decide) k20 rfl ?_
        show rn_R _ _ _ _ _ [.int (rn_orders.getD (((3 : Int32) * a2) + a5).toNatClampNeg 0), .ref 66, .int (m.1 65 a5.toNatClampNeg), .ref 56] _ _ _
        obtain ⟨k21, h⟩ := rq_chk h
        refine rx_ia (pc2 := 106) op64_105 (rn_shlt sp_66) sp_66 k21 rfl rfl ?_
        obtain ⟨k23, h⟩ := rq_chk h
        obtain ⟨m22, em22, h⟩ := rq_bv h
        refine rx_is (m2 := m22) (pc2 := 107) op64_106 sp_56 k23 rfl em22 rfl ?_
        obtain ⟨x24, ex24, h⟩ := rq_bv h
        refine rx_incd (w := 1) (v := x24) (j := 4) (pc2 := 110) op64_107 rfl (by decide) ex24 rfl (fun o25 => ?_)
        show rn_R _ _ _ _ [some (.ref 51), some (.int a1), some (.int a2), some (.long a3), o25, some (.int x24)] _ _ _ _
        refine ry_go (tgt := 59) op64_110 (by decide) (by decide) ?_
        exact ih _ _ _ h
      · have h := (if_neg b18).symm.trans h
        cases h
        exact hr _ rfl _ _
    · have h := (if_neg b17).symm.trans h
      cases h
      exact hr _ rfl _ _
set_option maxHeartbeats 4000000 in
set_option maxRecDepth 20000 in
theorem se_run_l39_ok (xs : List Int32) {d : Nat} (hd : 38 ≤ d + 1) {a1 : Int32} {r : Option Value} {τ : rn_H} {out : rn_Mem} (hr : ∀ (mO : rn_Mem), out = mO → ∀ (o0 o1 o2 o3 o4 o5 : Option Value), rn_R xs (d + 1) 64 164 [o0, o1, o2, o3, o4, o5] [] (rn_SH, mO) r τ) : ∀ (n : Nat) (a2 : Int32) (o3 o4 o5 : Option Value) (m : rn_Mem), se_run_l39 a1 n a2 m = some out → rn_R xs (d + 1) 64 39 [some (.ref 51), some (.int a1), some (.int a2), o3, o4, o5] [] (rn_SH, m) r τ := by
  intro n
  induction n with
  | zero =>
    intro _ _ _ _ _ h
    cases h
  | succ n ih =>
    intro a2 o3 o4 o5 m h
    unfold se_run_l39 at h
    try dsimp only at h
    refine rx_p (L2 := [some (.ref 51), some (.int a1), some (.int a2), o3, o4, o5]) (S2 := [.int a2]) (pc2 := 40) op64_39 rfl rfl ?_
    refine rx_p (L2 := [some (.ref 51), some (.int a1), some (.int a2), o3, o4, o5]) (S2 := [.int a1, .int a2]) (pc2 := 41) op64_40 rfl rfl ?_
    refine ry_ic_ge (tgt := 164) (pc2 := 44) op64_41 (by decide) (by decide) rfl (fun b11 => ?_) (fun b11 => ?_)
    · have h := (if_pos b11).symm.trans h
      refine rx_p (L2 := [some (.ref 51), some (.int a1), some (.int a2), o3, o4, o5]) (S2 := [.ref 51]) (pc2 := 45) op64_44 rfl rfl ?_
      obtain ⟨⟨r13, m12⟩, f14, h⟩ := rq_bind h
      try dsimp only at h
      refine ry_iv (p := 51) (vs := []) (T := []) (pc2 := 48) op64_45 ms_66 (by decide) rfl rfl (Nat.le_of_ble_eq_true rfl) (Nat.le_of_ble_eq_true rfl) sp_51 (se_settled_ok xs (by omega)  f14) rfl ?_
      show rn_R _ _ _ _ _ [.int r13] _ _ _
      refine ry_if_ne (tgt := 164) (pc2 := 51) op64_48 (by decide) (by decide) rfl (fun b15 => ?_) (fun b15 => ?_)
      · have h := (if_pos b15).symm.trans h
        refine rx_p (L2 := [some (.ref 51), some (.int a1), some (.int a2), o3, o4, o5]) (S2 := [.ref 51]) (pc2 := 52) op64_51 rfl rfl ?_
        refine rx_gf (v := .long (m12.2 51 12)) (pc2 := 55) op64_52 sp_51 rfl rfl rfl ?_
        obtain ⟨x16, ex16, h⟩ := rq_bv h
        refine rx_sl (v := x16) (L2 := [some (.ref 51), some (.int a1), some (.int a2), some (.long x16), none, o5]) (pc2 := 56) op64_55 ex16 rfl rfl ?_
        refine rx_ic (v := 0) (pc2 := 57) op64_56 (by decide) rfl ?_
        refine rx_s (L2 := [some (.ref 51), some (.int a1), some (.int a2), some (.long x16), none, some (.int 0)]) (pc2 := 59) op64_57 rfl rfl rfl ?_
        obtain ⟨m26, f46, h⟩ := rq_bind h
        refine se_run_l59_ok xs hd (fun m0 eq => ?_) _ _ _ _  f46
        subst eq
        try dsimp only at h
        intro o27 o28
        refine rx_p (L2 := [some (.ref 51), some (.int a1), some (.int a2), some (.long x16), o27, o28]) (S2 := [.ref 51]) (pc2 := 114) op64_113 rfl rfl ?_
        obtain ⟨m29, f30, h⟩ := rq_bind h
        try dsimp only at h
        refine ry_iv (p := 51) (vs := []) (T := []) (pc2 := 117) op64_114 ms_67 (by decide) rfl rfl (Nat.le_of_ble_eq_true rfl) (Nat.le_of_ble_eq_true rfl) sp_51 (se_gather_ok xs (by omega)  f30) rfl ?_
        show rn_R _ _ _ _ _ [] _ _ _
        refine rx_p (L2 := [some (.ref 51), some (.int a1), some (.int a2), some (.long x16), o27, o28]) (S2 := [.ref 51]) (pc2 := 118) op64_117 rfl rfl ?_
        refine rx_p (L2 := [some (.ref 51), some (.int a1), some (.int a2), some (.long x16), o27, o28]) (S2 := [.ref 51, .ref 51]) (pc2 := 119) op64_118 rfl rfl ?_
        refine rx_gf (v := .ref 52) (pc2 := 122) op64_119 sp_51 rfl rfl rfl ?_
        refine rx_gf (v := .int (m29.1 52 2)) (pc2 := 125) op64_122 sp_52 rfl rfl rfl ?_
        refine rx_ic (v := 1) (pc2 := 126) op64_125 (by decide) rfl ?_
        refine rx_p (L2 := [some (.ref 51), some (.int a1), some (.int a2), some (.long x16), o27, o28]) (S2 := [.int ((m29.1 52 2) - 1), .ref 51]) (pc2 := 127) op64_126 rfl rfl ?_
        refine rx_p (L2 := [some (.ref 51), some (.int a1), some (.int a2), some (.long x16), o27, o28]) (S2 := [.ref 51, .int ((m29.1 52 2) - 1), .ref 51]) (pc2 := 128) op64_127 rfl rfl ?_
        obtain ⟨⟨r32, m31⟩, f33, h⟩ := rq_bind h
        try dsimp only at h
        refine ry_iv (p := 51) (vs := []) (T := [.int ((m29.1 52 2) - 1), .ref 51]) (pc2 := 131) op64_128 ms_75 (by decide) rfl rfl (Nat.le_of_ble_eq_true rfl) (Nat.le_of_ble_eq_true rfl) sp_51 (se_lastLeader_ok xs (by omega)  f33) rfl ?_
        show rn_R _ _ _ _ _ [.int r32, .int ((m29.1 52 2) - 1), .ref 51] _ _ _
        refine rx_ic (v := 0) (pc2 := 132) op64_131 (by decide) rfl ?_
        refine rx_ic (v := 0) (pc2 := 133) op64_132 (by decide) rfl ?_
        refine rx_ic (v := 0) (pc2 := 134) op64_133 (by decide) rfl ?_
        refine rx_ic (v := 0) (pc2 := 135) op64_134 (by decide) rfl ?_
        obtain ⟨m34, f35, h⟩ := rq_bind h
        try dsimp only at h
        refine ry_iv (p := 51) (vs := [.int ((m29.1 52 2) - 1), .int r32, .int 0, .int 0, .int 0, .int 0]) (T := []) (pc2 := 138) op64_135 ms_76 (by decide) rfl rfl (Nat.le_of_ble_eq_true rfl) (Nat.le_of_ble_eq_true rfl) sp_51 (se_lay_ok xs 16 (by omega)  f35) rfl ?_
        show rn_R _ _ _ _ _ [] _ _ _
        refine rx_p (L2 := [some (.ref 51), some (.int a1), some (.int a2), some (.long x16), o27, o28]) (S2 := [.ref 51]) (pc2 := 139) op64_138 rfl rfl ?_
        refine rx_gf (v := .int (m34.1 51 10)) (pc2 := 142) op64_139 sp_51 rfl rfl rfl ?_
        obtain ⟨m43, gc45, h⟩ := rq_bind h
        try dsimp only at h
        have c45 : ∀ (o40 o41 o42 : Option Value), rn_R xs (d + 1) 64 158 [some (.ref 51), some (.int a1), some (.int a2), o40, o41, o42] [] (rn_SH, m43) r τ := by
          intro o40 o41 o42
          obtain ⟨x44, ex44, h⟩ := rq_bv h
          refine rx_inc (w := 1) (v := x44) (L2 := [some (.ref 51), some (.int a1), some (.int x44), o40, o41, o42]) (pc2 := 161) op64_158 rfl (by decide) ex44 rfl rfl ?_
          refine ry_go (tgt := 39) op64_161 (by decide) (by decide) ?_
          exact ih _ _ _ _ _ h
        refine ry_if_ne (tgt := 158) (pc2 := 145) op64_142 (by decide) (by decide) rfl (fun b36 => ?_) (fun b36 => ?_)
        · have gc45 := (if_pos b36).symm.trans gc45
          refine rx_p (L2 := [some (.ref 51), some (.int a1), some (.int a2), some (.long x16), o27, o28]) (S2 := [.ref 51]) (pc2 := 146) op64_145 rfl rfl ?_
          refine rx_gf (v := .long (m34.2 51 12)) (pc2 := 149) op64_146 sp_51 rfl rfl rfl ?_
          refine rx_p (L2 := [some (.ref 51), some (.int a1), some (.int a2), some (.long x16), o27, o28]) (S2 := [.long x16, .long (m34.2 51 12)]) (pc2 := 150) op64_149 rfl rfl ?_
          refine rx_p (L2 := [some (.ref 51), some (.int a1), some (.int a2), some (.long x16), o27, o28]) (S2 := [.int (lg_cmp (m34.2 51 12) x16)]) (pc2 := 151) op64_150 rfl rfl ?_
          refine ry_if_eq (tgt := 158) (pc2 := 154) op64_151 (by decide) (by decide) rfl (fun b37 => ?_) (fun b37 => ?_)
          · have gc45 := (if_pos b37).symm.trans gc45
            cases gc45
            exact c45 _ _ _
          · have gc45 := (if_neg b37).symm.trans gc45
            refine rx_p (L2 := [some (.ref 51), some (.int a1), some (.int a2), some (.long x16), o27, o28]) (S2 := [.ref 51]) (pc2 := 155) op64_154 rfl rfl ?_
            obtain ⟨m38, f39, gc45⟩ := rq_bind gc45
            try dsimp only at gc45
            refine ry_iv (p := 51) (vs := []) (T := []) (pc2 := 158) op64_155 ms_88 (by decide) rfl rfl (Nat.le_of_ble_eq_true rfl) (Nat.le_of_ble_eq_true rfl) sp_51 (se_noteUnder_ok xs (by omega)  f39) rfl ?_
            show rn_R _ _ _ _ _ [] _ _ _
            cases gc45
            exact c45 _ _ _
        · have gc45 := (if_neg b36).symm.trans gc45
          cases gc45
          exact c45 _ _ _
      · have h := (if_neg b15).symm.trans h
        cases h
        exact hr _ rfl _ _ _ _ _ _
    · have h := (if_neg b11).symm.trans h
      cases h
      exact hr _ rfl _ _ _ _ _ _
set_option maxHeartbeats 4000000 in
set_option maxRecDepth 20000 in
theorem se_run_ok (xs : List Int32) {d : Nat} (hd : 38 ≤ d) {n : Nat} {m mO : rn_Mem} (h : se_run n  m = some mO) : rn_R xs d 64 0 (rn_ent 6 [.ref 51]) [] (rn_SH, m) none (rn_SH, mO) := by
  obtain ⟨d, rfl⟩ : ∃ e, d = e + 1 := ⟨d - 1, by omega⟩
  unfold se_run at h
  show rn_R xs (d + 1) 64 0 [some (.ref 51), none, none, none, none, none] [] (rn_SH, m) none (rn_SH, mO)
  refine rx_p (L2 := [some (.ref 51), none, none, none, none, none]) (S2 := [.ref 51]) (pc2 := 1) op64_0 rfl rfl ?_
  obtain ⟨m1, f2, h⟩ := rq_bind h
  try dsimp only at h
  refine ry_iv (p := 51) (vs := []) (T := []) (pc2 := 4) op64_1 ms_65 (by decide) rfl rfl (Nat.le_of_ble_eq_true rfl) (Nat.le_of_ble_eq_true rfl) sp_51 (se_listUnseen_ok xs (by omega)  f2) rfl ?_
  show rn_R _ _ _ _ _ [] _ _ _
  refine rx_p (L2 := [some (.ref 51), none, none, none, none, none]) (S2 := [.ref 51]) (pc2 := 5) op64_4 rfl rfl ?_
  refine rx_gf (v := .ref 53) (pc2 := 8) op64_5 sp_51 rfl rfl rfl ?_
  refine rx_gf (v := .int (m1.1 53 6)) (pc2 := 11) op64_8 sp_53 rfl rfl rfl ?_
  refine rx_ic (v := 2) (pc2 := 12) op64_11 (by decide) rfl ?_
  obtain ⟨x10, gc55, h⟩ := rq_bind h
  try dsimp only at h
  have c55 : ∀ (o5 o6 o7 o8 o9 : Option Value), rn_R xs (d + 1) 64 36 [some (.ref 51), o5, o6, o7, o8, o9] [.int x10] (rn_SH, m1) none (rn_SH, mO) := by
    intro o5 o6 o7 o8 o9
    refine rx_s (L2 := [some (.ref 51), some (.int x10), o6, o7, o8, o9]) (pc2 := 37) op64_36 rfl rfl rfl ?_
    refine rx_ic (v := 0) (pc2 := 38) op64_37 (by decide) rfl ?_
    refine rx_s (L2 := [some (.ref 51), some (.int x10), some (.int 0), o7, o8, o9]) (pc2 := 39) op64_38 rfl rfl rfl ?_
    obtain ⟨m47, f54, h⟩ := rq_bind h
    refine se_run_l39_ok xs hd (fun m0 eq => ?_) _ _ _ _ _ _  f54
    subst eq
    try dsimp only at h
    intro o48 o49 o50 o51 o52 o53
    obtain rfl := Option.some.inj h
    exact ry_rv op64_164 ms_64 rfl
  refine ry_ic_ge (tgt := 19) (pc2 := 15) op64_12 (by decide) (by decide) rfl (fun b3 => ?_) (fun b3 => ?_)
  · have gc55 := (if_pos b3).symm.trans gc55
    refine rx_ic (v := 1) (pc2 := 16) op64_15 (by decide) rfl ?_
    refine ry_go (tgt := 36) op64_16 (by decide) (by decide) ?_
    cases gc55
    exact c55 _ _ _ _ _
  · have gc55 := (if_neg b3).symm.trans gc55
    refine rx_p (L2 := [some (.ref 51), none, none, none, none, none]) (S2 := [.ref 51]) (pc2 := 20) op64_19 rfl rfl ?_
    refine rx_gf (v := .ref 53) (pc2 := 23) op64_20 sp_51 rfl rfl rfl ?_
    refine rx_gf (v := .int (m1.1 53 6)) (pc2 := 26) op64_23 sp_53 rfl rfl rfl ?_
    refine rx_ic (v := 2) (pc2 := 27) op64_26 (by decide) rfl ?_
    refine ry_ic_ne (tgt := 34) (pc2 := 30) op64_27 (by decide) (by decide) rfl (fun b4 => ?_) (fun b4 => ?_)
    · have gc55 := (if_pos b4).symm.trans gc55
      refine rx_ic (v := 2) (pc2 := 31) op64_30 (by decide) rfl ?_
      refine ry_go (tgt := 36) op64_31 (by decide) (by decide) ?_
      cases gc55
      exact c55 _ _ _ _ _
    · have gc55 := (if_neg b4).symm.trans gc55
      refine rx_bp (v := 6) (pc2 := 36) op64_34 (by decide) rfl ?_
      cases gc55
      exact c55 _ _ _ _ _
/-! se_findAll -/
theorem op63_0 : rn_op 63 0 = some (.aload_n 0, 1, 0, 0, 0) := by decide +kernel
theorem op63_1 : rn_op 63 1 = some (.iconst 0, 1, 0, 0, 0) := by decide +kernel
theorem op63_2 : rn_op 63 2 = some (.putfield 76, 3, 4, 10, 0) := by decide +kernel
theorem op63_5 : rn_op 63 5 = some (.aload_n 0, 1, 0, 0, 0) := by decide +kernel
theorem op63_6 : rn_op 63 6 = some (.lconst 0, 1, 0, 0, 0) := by decide +kernel
theorem op63_7 : rn_op 63 7 = some (.putfield 80, 3, 4, 12, 1) := by decide +kernel
theorem op63_10 : rn_op 63 10 = some (.aload_n 0, 1, 0, 0, 0) := by decide +kernel
theorem op63_11 : rn_op 63 11 = some (.ldc2_w 84, 3, 18446744073709551615, 0, 0) := by decide +kernel
theorem op63_14 : rn_op 63 14 = some (.putfield 86, 3, 4, 13, 1) := by decide +kernel
theorem op63_17 : rn_op 63 17 = some (.aload_n 0, 1, 0, 0, 0) := by decide +kernel
theorem op63_18 : rn_op 63 18 = some (.lconst 0, 1, 0, 0, 0) := by decide +kernel
theorem op63_19 : rn_op 63 19 = some (.putfield 89, 3, 4, 14, 1) := by decide +kernel
theorem op63_22 : rn_op 63 22 = some (.aload_n 0, 1, 0, 0, 0) := by decide +kernel
theorem op63_23 : rn_op 63 23 = some (.iconst 0, 1, 0, 0, 0) := by decide +kernel
theorem op63_24 : rn_op 63 24 = some (.putfield 92, 3, 4, 15, 0) := by decide +kernel
theorem op63_27 : rn_op 63 27 = some (.aload_n 0, 1, 0, 0, 0) := by decide +kernel
theorem op63_28 : rn_op 63 28 = some (.iconst 0, 1, 0, 0, 0) := by decide +kernel
theorem op63_29 : rn_op 63 29 = some (.putfield 95, 3, 4, 16, 0) := by decide +kernel
theorem op63_32 : rn_op 63 32 = some (.iconst 0, 1, 0, 0, 0) := by decide +kernel
theorem op63_33 : rn_op 63 33 = some (.istore_n 1, 1, 0, 0, 0) := by decide +kernel
theorem op63_34 : rn_op 63 34 = some (.iload_n 1, 1, 0, 0, 0) := by decide +kernel
theorem op63_35 : rn_op 63 35 = some (.iconst 3, 1, 0, 0, 0) := by decide +kernel
theorem op63_36 : rn_op 63 36 = some (.if_icmp .ge 16, 3, 0, 0, 0) := by decide +kernel
theorem op63_39 : rn_op 63 39 = some (.aload_n 0, 1, 0, 0, 0) := by decide +kernel
theorem op63_40 : rn_op 63 40 = some (.getfield 54, 3, 4, 18, 3) := by decide +kernel
theorem op63_43 : rn_op 63 43 = some (.iload_n 1, 1, 0, 0, 0) := by decide +kernel
theorem op63_44 : rn_op 63 44 = some (.iconst 0, 1, 0, 0, 0) := by decide +kernel
theorem op63_45 : rn_op 63 45 = some (.iastore, 1, 0, 0, 0) := by decide +kernel
theorem op63_46 : rn_op 63 46 = some (.iinc 1 1, 3, 0, 0, 0) := by decide +kernel
theorem op63_49 : rn_op 63 49 = some (.goto (-15), 3, 0, 0, 0) := by decide +kernel
theorem op63_52 : rn_op 63 52 = some (.aload_n 0, 1, 0, 0, 0) := by decide +kernel
theorem op63_53 : rn_op 63 53 = some (.invokevirtual 98, 3, 64, 1, 4) := by decide +kernel
theorem op63_56 : rn_op 63 56 = some (.return_, 1, 0, 0, 0) := by decide +kernel
def se_findAll_l34  : Nat → Int32 → rn_Mem → Option (rn_Mem)
  | 0, _, _ => none
  | n + 1, a1, m =>
    if a1 < 3 then
      if rn_in a1 3 = true then
        (some (rm_i m 68 a1.toNatClampNeg 0)).bind fun (m8 : rn_Mem) =>
        (some (a1 + 1)).bind fun (x10 : Int32) =>
        se_findAll_l34 n x10 m8
      else none
    else
      some m
def se_findAll (n : Nat)  (m : rn_Mem) : Option (rn_Mem) :=
  (some (rm_i m 51 10 0)).bind fun (m1 : rn_Mem) =>
  (some (rm_j m1 51 12 0)).bind fun (m2 : rn_Mem) =>
  (some (rm_j m2 51 13 (-1))).bind fun (m3 : rn_Mem) =>
  (some (rm_j m3 51 14 0)).bind fun (m4 : rn_Mem) =>
  (some (rm_i m4 51 15 0)).bind fun (m5 : rn_Mem) =>
  (some (rm_i m5 51 16 0)).bind fun (m6 : rn_Mem) =>
  (se_findAll_l34 n 0 m6).bind fun m11 =>
  (se_run n m11).bind fun m13 =>
  some m13
set_option maxHeartbeats 4000000 in
set_option maxRecDepth 20000 in
theorem se_findAll_l34_ok (xs : List Int32) {d : Nat} (hd : 39 ≤ d + 1) {r : Option Value} {τ : rn_H} {out : rn_Mem} (hr : ∀ (mO : rn_Mem), out = mO → ∀ (o1 : Option Value), rn_R xs (d + 1) 63 52 [some (.ref 51), o1] [] (rn_SH, mO) r τ) : ∀ (n : Nat) (a1 : Int32) (m : rn_Mem), se_findAll_l34 n a1 m = some out → rn_R xs (d + 1) 63 34 [some (.ref 51), some (.int a1)] [] (rn_SH, m) r τ := by
  intro n
  induction n with
  | zero =>
    intro _ _ h
    cases h
  | succ n ih =>
    intro a1 m h
    unfold se_findAll_l34 at h
    try dsimp only at h
    refine rx_p (L2 := [some (.ref 51), some (.int a1)]) (S2 := [.int a1]) (pc2 := 35) op63_34 rfl rfl ?_
    refine rx_ic (v := 3) (pc2 := 36) op63_35 (by decide) rfl ?_
    refine ry_ic_ge (tgt := 52) (pc2 := 39) op63_36 (by decide) (by decide) rfl (fun b7 => ?_) (fun b7 => ?_)
    · have h := (if_pos b7).symm.trans h
      refine rx_p (L2 := [some (.ref 51), some (.int a1)]) (S2 := [.ref 51]) (pc2 := 40) op63_39 rfl rfl ?_
      refine rx_gf (v := .ref 68) (pc2 := 43) op63_40 sp_51 rfl rfl rfl ?_
      refine rx_p (L2 := [some (.ref 51), some (.int a1)]) (S2 := [.int a1, .ref 68]) (pc2 := 44) op63_43 rfl rfl ?_
      refine rx_ic (v := 0) (pc2 := 45) op63_44 (by decide) rfl ?_
      obtain ⟨k9, h⟩ := rq_chk h
      obtain ⟨m8, em8, h⟩ := rq_bv h
      refine rx_is (m2 := m8) (pc2 := 46) op63_45 sp_68 k9 rfl em8 rfl ?_
      obtain ⟨x10, ex10, h⟩ := rq_bv h
      refine rx_inc (w := 1) (v := x10) (L2 := [some (.ref 51), some (.int x10)]) (pc2 := 49) op63_46 rfl (by decide) ex10 rfl rfl ?_
      refine ry_go (tgt := 34) op63_49 (by decide) (by decide) ?_
      exact ih _ _ h
    · have h := (if_neg b7).symm.trans h
      cases h
      exact hr _ rfl _
set_option maxHeartbeats 4000000 in
set_option maxRecDepth 20000 in
theorem se_findAll_ok (xs : List Int32) {d : Nat} (hd : 39 ≤ d) {n : Nat} {m mO : rn_Mem} (h : se_findAll n  m = some mO) : rn_R xs d 63 0 (rn_ent 2 [.ref 51]) [] (rn_SH, m) none (rn_SH, mO) := by
  obtain ⟨d, rfl⟩ : ∃ e, d = e + 1 := ⟨d - 1, by omega⟩
  unfold se_findAll at h
  show rn_R xs (d + 1) 63 0 [some (.ref 51), none] [] (rn_SH, m) none (rn_SH, mO)
  refine rx_p (L2 := [some (.ref 51), none]) (S2 := [.ref 51]) (pc2 := 1) op63_0 rfl rfl ?_
  refine rx_ic (v := 0) (pc2 := 2) op63_1 (by decide) rfl ?_
  obtain ⟨m1, em1, h⟩ := rq_bv h
  refine rx_pf (m2 := m1) (pc2 := 5) op63_2 sp_51 rfl em1 rfl ?_
  refine rx_p (L2 := [some (.ref 51), none]) (S2 := [.ref 51]) (pc2 := 6) op63_5 rfl rfl ?_
  refine rx_lc (v := 0) (pc2 := 7) op63_6 (by decide) rfl ?_
  obtain ⟨m2, em2, h⟩ := rq_bv h
  refine rx_pj (m2 := m2) (pc2 := 10) op63_7 sp_51 rfl em2 rfl ?_
  refine rx_p (L2 := [some (.ref 51), none]) (S2 := [.ref 51]) (pc2 := 11) op63_10 rfl rfl ?_
  refine rx_ld2 (v := (-1)) (pc2 := 14) op63_11 (by decide) rfl ?_
  obtain ⟨m3, em3, h⟩ := rq_bv h
  refine rx_pj (m2 := m3) (pc2 := 17) op63_14 sp_51 rfl em3 rfl ?_
  refine rx_p (L2 := [some (.ref 51), none]) (S2 := [.ref 51]) (pc2 := 18) op63_17 rfl rfl ?_
  refine rx_lc (v := 0) (pc2 := 19) op63_18 (by decide) rfl ?_
  obtain ⟨m4, em4, h⟩ := rq_bv h
  refine rx_pj (m2 := m4) (pc2 := 22) op63_19 sp_51 rfl em4 rfl ?_
  refine rx_p (L2 := [some (.ref 51), none]) (S2 := [.ref 51]) (pc2 := 23) op63_22 rfl rfl ?_
  refine rx_ic (v := 0) (pc2 := 24) op63_23 (by decide) rfl ?_
  obtain ⟨m5, em5, h⟩ := rq_bv h
  refine rx_pf (m2 := m5) (pc2 := 27) op63_24 sp_51 rfl em5 rfl ?_
  refine rx_p (L2 := [some (.ref 51), none]) (S2 := [.ref 51]) (pc2 := 28) op63_27 rfl rfl ?_
  refine rx_ic (v := 0) (pc2 := 29) op63_28 (by decide) rfl ?_
  obtain ⟨m6, em6, h⟩ := rq_bv h
  refine rx_pf (m2 := m6) (pc2 := 32) op63_29 sp_51 rfl em6 rfl ?_
  refine rx_ic (v := 0) (pc2 := 33) op63_32 (by decide) rfl ?_
  refine rx_s (L2 := [some (.ref 51), some (.int 0)]) (pc2 := 34) op63_33 rfl rfl rfl ?_
  obtain ⟨m11, f15, h⟩ := rq_bind h
  refine se_findAll_l34_ok xs hd (fun m0 eq => ?_) _ _ _  f15
  subst eq
  try dsimp only at h
  intro o12
  refine rx_p (L2 := [some (.ref 51), o12]) (S2 := [.ref 51]) (pc2 := 53) op63_52 rfl rfl ?_
  obtain ⟨m13, f14, h⟩ := rq_bind h
  try dsimp only at h
  refine ry_iv (p := 51) (vs := []) (T := []) (pc2 := 56) op63_53 ms_64 (by decide) rfl rfl (Nat.le_of_ble_eq_true rfl) (Nat.le_of_ble_eq_true rfl) sp_51 (se_run_ok xs (by omega)  f14) rfl ?_
  show rn_R _ _ _ _ _ [] _ _ _
  obtain rfl := Option.some.inj h
  exact ry_rv op63_56 ms_63 rfl
/-! lt_survey -/
theorem op60_0 : rn_op 60 0 = some (.aload_n 0, 1, 0, 0, 0) := by decide +kernel
theorem op60_1 : rn_op 60 1 = some (.getfield 81, 3, 10, 8, 0) := by decide +kernel
theorem op60_4 : rn_op 60 4 = some (.iconst 1, 1, 0, 0, 0) := by decide +kernel
theorem op60_5 : rn_op 60 5 = some (.iand, 1, 0, 0, 0) := by decide +kernel
theorem op60_6 : rn_op 60 6 = some (.ifCond .ne 31, 3, 0, 0, 0) := by decide +kernel
theorem op60_9 : rn_op 60 9 = some (.aload_n 0, 1, 0, 0, 0) := by decide +kernel
theorem op60_10 : rn_op 60 10 = some (.getfield 32, 3, 10, 4, 3) := by decide +kernel
theorem op60_13 : rn_op 60 13 = some (.aload_n 0, 1, 0, 0, 0) := by decide +kernel
theorem op60_14 : rn_op 60 14 = some (.getfield 19, 3, 10, 1, 3) := by decide +kernel
theorem op60_17 : rn_op 60 17 = some (.invokevirtual 213, 3, 61, 2, 4) := by decide +kernel
theorem op60_20 : rn_op 60 20 = some (.aload_n 0, 1, 0, 0, 0) := by decide +kernel
theorem op60_21 : rn_op 60 21 = some (.getfield 32, 3, 10, 4, 3) := by decide +kernel
theorem op60_24 : rn_op 60 24 = some (.invokevirtual 311, 3, 63, 1, 4) := by decide +kernel
theorem op60_27 : rn_op 60 27 = some (.aload_n 0, 1, 0, 0, 0) := by decide +kernel
theorem op60_28 : rn_op 60 28 = some (.dup, 1, 0, 0, 0) := by decide +kernel
theorem op60_29 : rn_op 60 29 = some (.getfield 81, 3, 10, 8, 0) := by decide +kernel
theorem op60_32 : rn_op 60 32 = some (.iconst 1, 1, 0, 0, 0) := by decide +kernel
theorem op60_33 : rn_op 60 33 = some (.ior, 1, 0, 0, 0) := by decide +kernel
theorem op60_34 : rn_op 60 34 = some (.putfield 81, 3, 10, 8, 0) := by decide +kernel
theorem op60_37 : rn_op 60 37 = some (.return_, 1, 0, 0, 0) := by decide +kernel
def lt_survey (n : Nat)  (m : rn_Mem) : Option (rn_Mem) :=
  if ((m.1 0 8) &&& 1) = 0 then
    (se_take n 3 m).bind fun m2 =>
    (se_findAll n m2).bind fun m4 =>
    (some (rm_i m4 0 8 ((m4.1 0 8) ||| 1))).bind fun (m6 : rn_Mem) =>
    some m6
  else
    some m
set_option maxHeartbeats 4000000 in
set_option maxRecDepth 20000 in
theorem lt_survey_ok (xs : List Int32) {d : Nat} (hd : 40 ≤ d) {n : Nat} {m mO : rn_Mem} (h : lt_survey n  m = some mO) : rn_R xs d 60 0 (rn_ent 1 [.ref 0]) [] (rn_SH, m) none (rn_SH, mO) := by
  obtain ⟨d, rfl⟩ : ∃ e, d = e + 1 := ⟨d - 1, by omega⟩
  unfold lt_survey at h
  show rn_R xs (d + 1) 60 0 [some (.ref 0)] [] (rn_SH, m) none (rn_SH, mO)
  refine rx_p (L2 := [some (.ref 0)]) (S2 := [.ref 0]) (pc2 := 1) op60_0 rfl rfl ?_
  refine rx_gf (v := .int (m.1 0 8)) (pc2 := 4) op60_1 sp_0 rfl rfl rfl ?_
  refine rx_ic (v := 1) (pc2 := 5) op60_4 (by decide) rfl ?_
  refine rx_p (L2 := [some (.ref 0)]) (S2 := [.int ((m.1 0 8) &&& 1)]) (pc2 := 6) op60_5 rfl rfl ?_
  refine ry_if_ne (tgt := 37) (pc2 := 9) op60_6 (by decide) (by decide) rfl (fun b1 => ?_) (fun b1 => ?_)
  · have h := (if_pos b1).symm.trans h
    refine rx_p (L2 := [some (.ref 0)]) (S2 := [.ref 0]) (pc2 := 10) op60_9 rfl rfl ?_
    refine rx_gf (v := .ref 51) (pc2 := 13) op60_10 sp_0 rfl rfl rfl ?_
    refine rx_p (L2 := [some (.ref 0)]) (S2 := [.ref 0, .ref 51]) (pc2 := 14) op60_13 rfl rfl ?_
    refine rx_gf (v := .ref 3) (pc2 := 17) op60_14 sp_0 rfl rfl rfl ?_
    obtain ⟨m2, f3, h⟩ := rq_bind h
    try dsimp only at h
    refine ry_iv (p := 51) (vs := [.ref 3]) (T := []) (pc2 := 20) op60_17 ms_61 (by decide) rfl rfl (Nat.le_of_ble_eq_true rfl) (Nat.le_of_ble_eq_true rfl) sp_51 (se_take_ok xs (by omega) sa_3 f3) rfl ?_
    show rn_R _ _ _ _ _ [] _ _ _
    refine rx_p (L2 := [some (.ref 0)]) (S2 := [.ref 0]) (pc2 := 21) op60_20 rfl rfl ?_
    refine rx_gf (v := .ref 51) (pc2 := 24) op60_21 sp_0 rfl rfl rfl ?_
    obtain ⟨m4, f5, h⟩ := rq_bind h
    try dsimp only at h
    refine ry_iv (p := 51) (vs := []) (T := []) (pc2 := 27) op60_24 ms_63 (by decide) rfl rfl (Nat.le_of_ble_eq_true rfl) (Nat.le_of_ble_eq_true rfl) sp_51 (se_findAll_ok xs (by omega)  f5) rfl ?_
    show rn_R _ _ _ _ _ [] _ _ _
    refine rx_p (L2 := [some (.ref 0)]) (S2 := [.ref 0]) (pc2 := 28) op60_27 rfl rfl ?_
    refine rx_p (L2 := [some (.ref 0)]) (S2 := [.ref 0, .ref 0]) (pc2 := 29) op60_28 rfl rfl ?_
    refine rx_gf (v := .int (m4.1 0 8)) (pc2 := 32) op60_29 sp_0 rfl rfl rfl ?_
    refine rx_ic (v := 1) (pc2 := 33) op60_32 (by decide) rfl ?_
    refine rx_p (L2 := [some (.ref 0)]) (S2 := [.int ((m4.1 0 8) ||| 1), .ref 0]) (pc2 := 34) op60_33 rfl rfl ?_
    obtain ⟨m6, em6, h⟩ := rq_bv h
    refine rx_pf (m2 := m6) (pc2 := 37) op60_34 sp_0 rfl em6 rfl ?_
    obtain rfl := Option.some.inj h
    exact ry_rv op60_37 ms_60 rfl
  · have h := (if_neg b1).symm.trans h
    obtain rfl := Option.some.inj h
    exact ry_rv op60_37 ms_60 rfl
/-! lt_plays -/
theorem op59_0 : rn_op 59 0 = some (.aload_n 0, 1, 0, 0, 0) := by decide +kernel
theorem op59_1 : rn_op 59 1 = some (.getfield 19, 3, 10, 1, 3) := by decide +kernel
theorem op59_4 : rn_op 59 4 = some (.getfield 93, 3, 6, 1, 3) := by decide +kernel
theorem op59_7 : rn_op 59 7 = some (.getfield 136, 3, 7, 0, 2) := by decide +kernel
theorem op59_10 : rn_op 59 10 = some (.ifCond .ne 7, 3, 0, 0, 0) := by decide +kernel
theorem op59_13 : rn_op 59 13 = some (.ldc2_w 177, 3, 18446744073709551614, 0, 0) := by decide +kernel
theorem op59_16 : rn_op 59 16 = some (.lreturn, 1, 0, 0, 0) := by decide +kernel
theorem op59_17 : rn_op 59 17 = some (.aload_n 0, 1, 0, 0, 0) := by decide +kernel
theorem op59_18 : rn_op 59 18 = some (.invokevirtual 179, 3, 60, 1, 10) := by decide +kernel
theorem op59_21 : rn_op 59 21 = some (.aload_n 0, 1, 0, 0, 0) := by decide +kernel
theorem op59_22 : rn_op 59 22 = some (.getfield 32, 3, 10, 4, 3) := by decide +kernel
theorem op59_25 : rn_op 59 25 = some (.getfield 182, 3, 4, 12, 1) := by decide +kernel
theorem op59_28 : rn_op 59 28 = some (.lreturn, 1, 0, 0, 0) := by decide +kernel
def lt_plays (n : Nat)  (m : rn_Mem) : Option (Int64 × rn_Mem) :=
  if (m.1 5 0) = 0 then
    some ((-2), m)
  else
    (lt_survey n m).bind fun m2 =>
    some (m2.2 51 12, m2)
set_option maxHeartbeats 4000000 in
set_option maxRecDepth 20000 in
theorem lt_plays_ok (xs : List Int32) {d : Nat} (hd : 41 ≤ d) {n : Nat} {m mO : rn_Mem} {rO : Int64} (h : lt_plays n  m = some (rO, mO)) : rn_R xs d 59 0 (rn_ent 1 [.ref 0]) [] (rn_SH, m) (some (.long rO)) (rn_SH, mO) := by
  obtain ⟨d, rfl⟩ : ∃ e, d = e + 1 := ⟨d - 1, by omega⟩
  unfold lt_plays at h
  show rn_R xs (d + 1) 59 0 [some (.ref 0)] [] (rn_SH, m) (some (.long rO)) (rn_SH, mO)
  refine rx_p (L2 := [some (.ref 0)]) (S2 := [.ref 0]) (pc2 := 1) op59_0 rfl rfl ?_
  refine rx_gf (v := .ref 3) (pc2 := 4) op59_1 sp_0 rfl rfl rfl ?_
  refine rx_gf (v := .ref 5) (pc2 := 7) op59_4 sp_3 rfl rfl rfl ?_
  refine rx_gf (v := .int (m.1 5 0)) (pc2 := 10) op59_7 sp_5 rfl rfl rfl ?_
  refine ry_if_ne (tgt := 17) (pc2 := 13) op59_10 (by decide) (by decide) rfl (fun b1 => ?_) (fun b1 => ?_)
  · have h := (if_pos b1).symm.trans h
    refine rx_ld2 (v := (-2)) (pc2 := 16) op59_13 (by decide) rfl ?_
    obtain ⟨rfl, rfl⟩ := rq_ret h
    exact ry_rl op59_16 ms_59 rfl
  · have h := (if_neg b1).symm.trans h
    refine rx_p (L2 := [some (.ref 0)]) (S2 := [.ref 0]) (pc2 := 18) op59_17 rfl rfl ?_
    obtain ⟨m2, f3, h⟩ := rq_bind h
    try dsimp only at h
    refine ry_iv (p := 0) (vs := []) (T := []) (pc2 := 21) op59_18 ms_60 (by decide) rfl rfl (Nat.le_of_ble_eq_true rfl) (Nat.le_of_ble_eq_true rfl) sp_0 (lt_survey_ok xs (by omega)  f3) rfl ?_
    show rn_R _ _ _ _ _ [] _ _ _
    refine rx_p (L2 := [some (.ref 0)]) (S2 := [.ref 0]) (pc2 := 22) op59_21 rfl rfl ?_
    refine rx_gf (v := .ref 51) (pc2 := 25) op59_22 sp_0 rfl rfl rfl ?_
    refine rx_gf (v := .long (m2.2 51 12)) (pc2 := 28) op59_25 sp_51 rfl rfl rfl ?_
    obtain ⟨rfl, rfl⟩ := rq_ret h
    exact ry_rl op59_28 ms_59 rfl
/-! lt_refusalOf -/
theorem op90_0 : rn_op 90 0 = some (.iload_n 1, 1, 0, 0, 0) := by decide +kernel
theorem op90_1 : rn_op 90 1 = some (.ifCond .lt 9, 3, 0, 0, 0) := by decide +kernel
theorem op90_4 : rn_op 90 4 = some (.iload_n 1, 1, 0, 0, 0) := by decide +kernel
theorem op90_5 : rn_op 90 5 = some (.bipush 16, 2, 0, 0, 0) := by decide +kernel
theorem op90_7 : rn_op 90 7 = some (.if_icmp .lt 5, 3, 0, 0, 0) := by decide +kernel
theorem op90_10 : rn_op 90 10 = some (.iconst (-1), 1, 0, 0, 0) := by decide +kernel
theorem op90_11 : rn_op 90 11 = some (.ireturn, 1, 0, 0, 0) := by decide +kernel
theorem op90_12 : rn_op 90 12 = some (.aload_n 0, 1, 0, 0, 0) := by decide +kernel
theorem op90_13 : rn_op 90 13 = some (.getfield 19, 3, 10, 1, 3) := by decide +kernel
theorem op90_16 : rn_op 90 16 = some (.getfield 93, 3, 6, 1, 3) := by decide +kernel
theorem op90_19 : rn_op 90 19 = some (.getfield 136, 3, 7, 0, 2) := by decide +kernel
theorem op90_22 : rn_op 90 22 = some (.ifCond .ne 6, 3, 0, 0, 0) := by decide +kernel
theorem op90_25 : rn_op 90 25 = some (.bipush (-2), 2, 0, 0, 0) := by decide +kernel
theorem op90_27 : rn_op 90 27 = some (.ireturn, 1, 0, 0, 0) := by decide +kernel
theorem op90_28 : rn_op 90 28 = some (.aload_n 0, 1, 0, 0, 0) := by decide +kernel
theorem op90_29 : rn_op 90 29 = some (.getfield 19, 3, 10, 1, 3) := by decide +kernel
theorem op90_32 : rn_op 90 32 = some (.getfield 62, 3, 6, 0, 3) := by decide +kernel
theorem op90_35 : rn_op 90 35 = some (.iload_n 1, 1, 0, 0, 0) := by decide +kernel
theorem op90_36 : rn_op 90 36 = some (.invokevirtual 145, 3, 50, 2, 1) := by decide +kernel
theorem op90_39 : rn_op 90 39 = some (.ifCond .eq 7, 3, 0, 0, 0) := by decide +kernel
theorem op90_42 : rn_op 90 42 = some (.iconst 0, 1, 0, 0, 0) := by decide +kernel
theorem op90_43 : rn_op 90 43 = some (.goto 4, 3, 0, 0, 0) := by decide +kernel
theorem op90_46 : rn_op 90 46 = some (.iconst (-1), 1, 0, 0, 0) := by decide +kernel
theorem op90_47 : rn_op 90 47 = some (.ireturn, 1, 0, 0, 0) := by decide +kernel
def lt_refusalOf (n : Nat) (a1 : Int32) (m : rn_Mem) : Option (Int32 × rn_Mem) :=
  if a1 < 0 then
    some ((-1), m)
  else
    if a1 < 16 then
      if (m.1 5 0) = 0 then
        some ((-2), m)
      else
        (ga_has n 4 a1 m).bind fun (r5, m4) =>
        if r5 = 0 then
          some ((-1), m4)
        else
          some (0, m4)
    else
      some ((-1), m)
set_option maxHeartbeats 4000000 in
set_option maxRecDepth 20000 in
theorem lt_refusalOf_ok (xs : List Int32) {d : Nat} (hd : 1 ≤ d) {n : Nat} {a1 : Int32} {m mO : rn_Mem} {rO : Int32} (h : lt_refusalOf n a1 m = some (rO, mO)) : rn_R xs d 90 0 (rn_ent 2 [.ref 0, .int a1]) [] (rn_SH, m) (some (.int rO)) (rn_SH, mO) := by
  obtain ⟨d, rfl⟩ : ∃ e, d = e + 1 := ⟨d - 1, by omega⟩
  unfold lt_refusalOf at h
  show rn_R xs (d + 1) 90 0 [some (.ref 0), some (.int a1)] [] (rn_SH, m) (some (.int rO)) (rn_SH, mO)
  refine rx_p (L2 := [some (.ref 0), some (.int a1)]) (S2 := [.int a1]) (pc2 := 1) op90_0 rfl rfl ?_
  refine ry_if_lt (tgt := 10) (pc2 := 4) op90_1 (by decide) (by decide) rfl (fun b1 => ?_) (fun b1 => ?_)
  · have h := (if_pos b1).symm.trans h
    refine rx_ic (v := (-1)) (pc2 := 11) op90_10 (by decide) rfl ?_
    obtain ⟨rfl, rfl⟩ := rq_ret h
    exact ry_ri op90_11 ms_90 rfl
  · have h := (if_neg b1).symm.trans h
    refine rx_p (L2 := [some (.ref 0), some (.int a1)]) (S2 := [.int a1]) (pc2 := 5) op90_4 rfl rfl ?_
    refine rx_bp (v := 16) (pc2 := 7) op90_5 (by decide) rfl ?_
    refine ry_ic_lt (tgt := 12) (pc2 := 10) op90_7 (by decide) (by decide) rfl (fun b2 => ?_) (fun b2 => ?_)
    · have h := (if_pos b2).symm.trans h
      refine rx_p (L2 := [some (.ref 0), some (.int a1)]) (S2 := [.ref 0]) (pc2 := 13) op90_12 rfl rfl ?_
      refine rx_gf (v := .ref 3) (pc2 := 16) op90_13 sp_0 rfl rfl rfl ?_
      refine rx_gf (v := .ref 5) (pc2 := 19) op90_16 sp_3 rfl rfl rfl ?_
      refine rx_gf (v := .int (m.1 5 0)) (pc2 := 22) op90_19 sp_5 rfl rfl rfl ?_
      refine ry_if_ne (tgt := 28) (pc2 := 25) op90_22 (by decide) (by decide) rfl (fun b3 => ?_) (fun b3 => ?_)
      · have h := (if_pos b3).symm.trans h
        refine rx_bp (v := (-2)) (pc2 := 27) op90_25 (by decide) rfl ?_
        obtain ⟨rfl, rfl⟩ := rq_ret h
        exact ry_ri op90_27 ms_90 rfl
      · have h := (if_neg b3).symm.trans h
        refine rx_p (L2 := [some (.ref 0), some (.int a1)]) (S2 := [.ref 0]) (pc2 := 29) op90_28 rfl rfl ?_
        refine rx_gf (v := .ref 3) (pc2 := 32) op90_29 sp_0 rfl rfl rfl ?_
        refine rx_gf (v := .ref 4) (pc2 := 35) op90_32 sp_3 rfl rfl rfl ?_
        refine rx_p (L2 := [some (.ref 0), some (.int a1)]) (S2 := [.int a1, .ref 4]) (pc2 := 36) op90_35 rfl rfl ?_
        obtain ⟨⟨r5, m4⟩, f6, h⟩ := rq_bind h
        try dsimp only at h
        refine ry_iv (p := 4) (vs := [.int a1]) (T := []) (pc2 := 39) op90_36 ms_50 (by decide) rfl rfl (Nat.le_of_ble_eq_true rfl) (Nat.le_of_ble_eq_true rfl) sp_4 (ga_has_ok xs (by omega) sa_4 f6) rfl ?_
        show rn_R _ _ _ _ _ [.int r5] _ _ _
        refine ry_if_eq (tgt := 46) (pc2 := 42) op90_39 (by decide) (by decide) rfl (fun b7 => ?_) (fun b7 => ?_)
        · have h := (if_pos b7).symm.trans h
          refine rx_ic (v := (-1)) (pc2 := 47) op90_46 (by decide) rfl ?_
          obtain ⟨rfl, rfl⟩ := rq_ret h
          exact ry_ri op90_47 ms_90 rfl
        · have h := (if_neg b7).symm.trans h
          refine rx_ic (v := 0) (pc2 := 43) op90_42 (by decide) rfl ?_
          refine ry_go (tgt := 47) op90_43 (by decide) (by decide) ?_
          obtain ⟨rfl, rfl⟩ := rq_ret h
          exact ry_ri op90_47 ms_90 rfl
    · have h := (if_neg b2).symm.trans h
      refine rx_ic (v := (-1)) (pc2 := 11) op90_10 (by decide) rfl ?_
      obtain ⟨rfl, rfl⟩ := rq_ret h
      exact ry_ri op90_11 ms_90 rfl
/-! se_holdersOf -/
theorem op91_0 : rn_op 91 0 = some (.aload_n 0, 1, 0, 0, 0) := by decide +kernel
theorem op91_1 : rn_op 91 1 = some (.getfield 89, 3, 4, 14, 1) := by decide +kernel
theorem op91_4 : rn_op 91 4 = some (.iconst 4, 1, 0, 0, 0) := by decide +kernel
theorem op91_5 : rn_op 91 5 = some (.iload_n 1, 1, 0, 0, 0) := by decide +kernel
theorem op91_6 : rn_op 91 6 = some (.imul, 1, 0, 0, 0) := by decide +kernel
theorem op91_7 : rn_op 91 7 = some (.lshr, 1, 0, 0, 0) := by decide +kernel
theorem op91_8 : rn_op 91 8 = some (.l2i, 1, 0, 0, 0) := by decide +kernel
theorem op91_9 : rn_op 91 9 = some (.bipush 15, 2, 0, 0, 0) := by decide +kernel
theorem op91_11 : rn_op 91 11 = some (.iand, 1, 0, 0, 0) := by decide +kernel
theorem op91_12 : rn_op 91 12 = some (.ireturn, 1, 0, 0, 0) := by decide +kernel
def se_holdersOf (n : Nat) (a1 : Int32) (m : rn_Mem) : Option (Int32 × rn_Mem) :=
  some ((((m.2 51 14) >>> (((4 : Int32) * a1).toInt64 &&& 63)).toInt32) &&& 15, m)
set_option maxHeartbeats 4000000 in
set_option maxRecDepth 20000 in
theorem se_holdersOf_ok (xs : List Int32) {d : Nat} (hd : 0 ≤ d) {n : Nat} {a1 : Int32} {m mO : rn_Mem} {rO : Int32} (h : se_holdersOf n a1 m = some (rO, mO)) : rn_R xs d 91 0 (rn_ent 2 [.ref 51, .int a1]) [] (rn_SH, m) (some (.int rO)) (rn_SH, mO) := by
  unfold se_holdersOf at h
  show rn_R xs d 91 0 [some (.ref 51), some (.int a1)] [] (rn_SH, m) (some (.int rO)) (rn_SH, mO)
  refine rx_p (L2 := [some (.ref 51), some (.int a1)]) (S2 := [.ref 51]) (pc2 := 1) op91_0 rfl rfl ?_
  refine rx_gf (v := .long (m.2 51 14)) (pc2 := 4) op91_1 sp_51 rfl rfl rfl ?_
  refine rx_ic (v := 4) (pc2 := 5) op91_4 (by decide) rfl ?_
  refine rx_p (L2 := [some (.ref 51), some (.int a1)]) (S2 := [.int a1, .int 4, .long (m.2 51 14)]) (pc2 := 6) op91_5 rfl rfl ?_
  refine rx_p (L2 := [some (.ref 51), some (.int a1)]) (S2 := [.int ((4 : Int32) * a1), .long (m.2 51 14)]) (pc2 := 7) op91_6 rfl rfl ?_
  refine rx_p (L2 := [some (.ref 51), some (.int a1)]) (S2 := [.long ((m.2 51 14) >>> (((4 : Int32) * a1).toInt64 &&& 63))]) (pc2 := 8) op91_7 rfl rfl ?_
  refine rx_p (L2 := [some (.ref 51), some (.int a1)]) (S2 := [.int (((m.2 51 14) >>> (((4 : Int32) * a1).toInt64 &&& 63)).toInt32)]) (pc2 := 9) op91_8 rfl rfl ?_
  refine rx_bp (v := 15) (pc2 := 11) op91_9 (by decide) rfl ?_
  refine rx_p (L2 := [some (.ref 51), some (.int a1)]) (S2 := [.int ((((m.2 51 14) >>> (((4 : Int32) * a1).toInt64 &&& 63)).toInt32) &&& 15)]) (pc2 := 12) op91_11 rfl rfl ?_
  obtain ⟨rfl, rfl⟩ := rq_ret h
  exact ry_ri op91_12 ms_91 rfl
/-! lt_may -/
theorem op89_0 : rn_op 89 0 = some (.aload_n 0, 1, 0, 0, 0) := by decide +kernel
theorem op89_1 : rn_op 89 1 = some (.iload_n 1, 1, 0, 0, 0) := by decide +kernel
theorem op89_2 : rn_op 89 2 = some (.invokevirtual 186, 3, 90, 2, 10) := by decide +kernel
theorem op89_5 : rn_op 89 5 = some (.istore_n 2, 1, 0, 0, 0) := by decide +kernel
theorem op89_6 : rn_op 89 6 = some (.iload_n 2, 1, 0, 0, 0) := by decide +kernel
theorem op89_7 : rn_op 89 7 = some (.ifCond .eq 5, 3, 0, 0, 0) := by decide +kernel
theorem op89_10 : rn_op 89 10 = some (.iload_n 2, 1, 0, 0, 0) := by decide +kernel
theorem op89_11 : rn_op 89 11 = some (.ireturn, 1, 0, 0, 0) := by decide +kernel
theorem op89_12 : rn_op 89 12 = some (.aload_n 0, 1, 0, 0, 0) := by decide +kernel
theorem op89_13 : rn_op 89 13 = some (.invokevirtual 179, 3, 60, 1, 10) := by decide +kernel
theorem op89_16 : rn_op 89 16 = some (.aload_n 0, 1, 0, 0, 0) := by decide +kernel
theorem op89_17 : rn_op 89 17 = some (.getfield 32, 3, 10, 4, 3) := by decide +kernel
theorem op89_20 : rn_op 89 20 = some (.iload_n 1, 1, 0, 0, 0) := by decide +kernel
theorem op89_21 : rn_op 89 21 = some (.invokevirtual 189, 3, 91, 2, 4) := by decide +kernel
theorem op89_24 : rn_op 89 24 = some (.ireturn, 1, 0, 0, 0) := by decide +kernel
def lt_may (n : Nat) (a1 : Int32) (m : rn_Mem) : Option (Int32 × rn_Mem) :=
  (lt_refusalOf n a1 m).bind fun (r2, m1) =>
  if r2 = 0 then
    (lt_survey n m1).bind fun m5 =>
    (se_holdersOf n a1 m5).bind fun (r8, m7) =>
    some (r8, m7)
  else
    some (r2, m1)
set_option maxHeartbeats 4000000 in
set_option maxRecDepth 20000 in
theorem lt_may_ok (xs : List Int32) {d : Nat} (hd : 41 ≤ d) {n : Nat} {a1 : Int32} {m mO : rn_Mem} {rO : Int32} (h : lt_may n a1 m = some (rO, mO)) : rn_R xs d 89 0 (rn_ent 3 [.ref 0, .int a1]) [] (rn_SH, m) (some (.int rO)) (rn_SH, mO) := by
  obtain ⟨d, rfl⟩ : ∃ e, d = e + 1 := ⟨d - 1, by omega⟩
  unfold lt_may at h
  show rn_R xs (d + 1) 89 0 [some (.ref 0), some (.int a1), none] [] (rn_SH, m) (some (.int rO)) (rn_SH, mO)
  refine rx_p (L2 := [some (.ref 0), some (.int a1), none]) (S2 := [.ref 0]) (pc2 := 1) op89_0 rfl rfl ?_
  refine rx_p (L2 := [some (.ref 0), some (.int a1), none]) (S2 := [.int a1, .ref 0]) (pc2 := 2) op89_1 rfl rfl ?_
  obtain ⟨⟨r2, m1⟩, f3, h⟩ := rq_bind h
  try dsimp only at h
  refine ry_iv (p := 0) (vs := [.int a1]) (T := []) (pc2 := 5) op89_2 ms_90 (by decide) rfl rfl (Nat.le_of_ble_eq_true rfl) (Nat.le_of_ble_eq_true rfl) sp_0 (lt_refusalOf_ok xs (by omega)  f3) rfl ?_
  show rn_R _ _ _ _ _ [.int r2] _ _ _
  refine rx_s (L2 := [some (.ref 0), some (.int a1), some (.int r2)]) (pc2 := 6) op89_5 rfl rfl rfl ?_
  refine rx_p (L2 := [some (.ref 0), some (.int a1), some (.int r2)]) (S2 := [.int r2]) (pc2 := 7) op89_6 rfl rfl ?_
  refine ry_if_eq (tgt := 12) (pc2 := 10) op89_7 (by decide) (by decide) rfl (fun b4 => ?_) (fun b4 => ?_)
  · have h := (if_pos b4).symm.trans h
    refine rx_p (L2 := [some (.ref 0), some (.int a1), some (.int r2)]) (S2 := [.ref 0]) (pc2 := 13) op89_12 rfl rfl ?_
    obtain ⟨m5, f6, h⟩ := rq_bind h
    try dsimp only at h
    refine ry_iv (p := 0) (vs := []) (T := []) (pc2 := 16) op89_13 ms_60 (by decide) rfl rfl (Nat.le_of_ble_eq_true rfl) (Nat.le_of_ble_eq_true rfl) sp_0 (lt_survey_ok xs (by omega)  f6) rfl ?_
    show rn_R _ _ _ _ _ [] _ _ _
    refine rx_p (L2 := [some (.ref 0), some (.int a1), some (.int r2)]) (S2 := [.ref 0]) (pc2 := 17) op89_16 rfl rfl ?_
    refine rx_gf (v := .ref 51) (pc2 := 20) op89_17 sp_0 rfl rfl rfl ?_
    refine rx_p (L2 := [some (.ref 0), some (.int a1), some (.int r2)]) (S2 := [.int a1, .ref 51]) (pc2 := 21) op89_20 rfl rfl ?_
    obtain ⟨⟨r8, m7⟩, f9, h⟩ := rq_bind h
    try dsimp only at h
    refine ry_iv (p := 51) (vs := [.int a1]) (T := []) (pc2 := 24) op89_21 ms_91 (by decide) rfl rfl (Nat.le_of_ble_eq_true rfl) (Nat.le_of_ble_eq_true rfl) sp_51 (se_holdersOf_ok xs (by omega)  f9) rfl ?_
    show rn_R _ _ _ _ _ [.int r8] _ _ _
    obtain ⟨rfl, rfl⟩ := rq_ret h
    exact ry_ri op89_24 ms_89 rfl
  · have h := (if_neg b4).symm.trans h
    refine rx_p (L2 := [some (.ref 0), some (.int a1), some (.int r2)]) (S2 := [.int r2]) (pc2 := 11) op89_10 rfl rfl ?_
    obtain ⟨rfl, rfl⟩ := rq_ret h
    exact ry_ri op89_11 ms_89 rfl
/-! lt_sure -/
theorem op92_0 : rn_op 92 0 = some (.aload_n 0, 1, 0, 0, 0) := by decide +kernel
theorem op92_1 : rn_op 92 1 = some (.iload_n 1, 1, 0, 0, 0) := by decide +kernel
theorem op92_2 : rn_op 92 2 = some (.invokevirtual 186, 3, 90, 2, 10) := by decide +kernel
theorem op92_5 : rn_op 92 5 = some (.istore_n 2, 1, 0, 0, 0) := by decide +kernel
theorem op92_6 : rn_op 92 6 = some (.iload_n 2, 1, 0, 0, 0) := by decide +kernel
theorem op92_7 : rn_op 92 7 = some (.ifCond .eq 5, 3, 0, 0, 0) := by decide +kernel
theorem op92_10 : rn_op 92 10 = some (.iload_n 2, 1, 0, 0, 0) := by decide +kernel
theorem op92_11 : rn_op 92 11 = some (.ireturn, 1, 0, 0, 0) := by decide +kernel
theorem op92_12 : rn_op 92 12 = some (.aload_n 0, 1, 0, 0, 0) := by decide +kernel
theorem op92_13 : rn_op 92 13 = some (.invokevirtual 179, 3, 60, 1, 10) := by decide +kernel
theorem op92_16 : rn_op 92 16 = some (.aload_n 0, 1, 0, 0, 0) := by decide +kernel
theorem op92_17 : rn_op 92 17 = some (.getfield 32, 3, 10, 4, 3) := by decide +kernel
theorem op92_20 : rn_op 92 20 = some (.iload_n 1, 1, 0, 0, 0) := by decide +kernel
theorem op92_21 : rn_op 92 21 = some (.invokevirtual 189, 3, 91, 2, 4) := by decide +kernel
theorem op92_24 : rn_op 92 24 = some (.istore_n 3, 1, 0, 0, 0) := by decide +kernel
theorem op92_25 : rn_op 92 25 = some (.iconst 0, 1, 0, 0, 0) := by decide +kernel
theorem op92_26 : rn_op 92 26 = some (.istore 4, 2, 0, 0, 0) := by decide +kernel
theorem op92_28 : rn_op 92 28 = some (.iload 4, 2, 0, 0, 0) := by decide +kernel
theorem op92_30 : rn_op 92 30 = some (.iconst 4, 1, 0, 0, 0) := by decide +kernel
theorem op92_31 : rn_op 92 31 = some (.if_icmp .ge 20, 3, 0, 0, 0) := by decide +kernel
theorem op92_34 : rn_op 92 34 = some (.iload_n 3, 1, 0, 0, 0) := by decide +kernel
theorem op92_35 : rn_op 92 35 = some (.iconst 1, 1, 0, 0, 0) := by decide +kernel
theorem op92_36 : rn_op 92 36 = some (.iload 4, 2, 0, 0, 0) := by decide +kernel
theorem op92_38 : rn_op 92 38 = some (.ishl, 1, 0, 0, 0) := by decide +kernel
theorem op92_39 : rn_op 92 39 = some (.if_icmp .ne 6, 3, 0, 0, 0) := by decide +kernel
theorem op92_42 : rn_op 92 42 = some (.iload 4, 2, 0, 0, 0) := by decide +kernel
theorem op92_44 : rn_op 92 44 = some (.ireturn, 1, 0, 0, 0) := by decide +kernel
theorem op92_45 : rn_op 92 45 = some (.iinc 4 1, 3, 0, 0, 0) := by decide +kernel
theorem op92_48 : rn_op 92 48 = some (.goto (-20), 3, 0, 0, 0) := by decide +kernel
theorem op92_51 : rn_op 92 51 = some (.bipush (-4), 2, 0, 0, 0) := by decide +kernel
theorem op92_53 : rn_op 92 53 = some (.ireturn, 1, 0, 0, 0) := by decide +kernel
def lt_sure_l28 (a3 : Int32) : Nat → Int32 → rn_Mem → Option ((Int32 × rn_Mem) ⊕ (rn_Mem))
  | 0, _, _ => none
  | n + 1, a4, m =>
    if a4 < 4 then
      if a3 = ((1 : Int32) <<< (a4 &&& 31)) then
        some (.inl (a4, m))
      else
        (some (a4 + 1)).bind fun (x12 : Int32) =>
        lt_sure_l28 a3 n x12 m
    else
      some (.inr m)
def lt_sure (n : Nat) (a1 : Int32) (m : rn_Mem) : Option (Int32 × rn_Mem) :=
  (lt_refusalOf n a1 m).bind fun (r2, m1) =>
  if r2 = 0 then
    (lt_survey n m1).bind fun m5 =>
    (se_holdersOf n a1 m5).bind fun (r8, m7) =>
    (lt_sure_l28 r8 n 0 m7).bind fun q => match q with
    | .inl o => some o
    | .inr m13 =>
    some ((-4), m13)
  else
    some (r2, m1)
set_option maxHeartbeats 4000000 in
set_option maxRecDepth 20000 in
theorem lt_sure_l28_ok (xs : List Int32) {d : Nat} (hd : 41 ≤ d + 1) {a3 : Int32} {r : Option Value} {τ : rn_H} {out : (Int32 × rn_Mem) ⊕ (rn_Mem)} (hl : ∀ (rO : Int32) (mO : rn_Mem), out = .inl (rO, mO) → r = (some (.int rO)) ∧ τ = (rn_SH, mO)) (hr : ∀ (mO : rn_Mem), out = .inr mO → ∀ (o0 o1 o2 o3 o4 : Option Value), rn_R xs (d + 1) 92 51 [o0, o1, o2, o3, o4] [] (rn_SH, mO) r τ) : ∀ (n : Nat) (a4 : Int32) (o0 o1 o2 : Option Value) (m : rn_Mem), lt_sure_l28 a3 n a4 m = some out → rn_R xs (d + 1) 92 28 [o0, o1, o2, some (.int a3), some (.int a4)] [] (rn_SH, m) r τ := by
  intro n
  induction n with
  | zero =>
    intro _ _ _ _ _ h
    cases h
  | succ n ih =>
    intro a4 o0 o1 o2 m h
    unfold lt_sure_l28 at h
    try dsimp only at h
    refine rx_p (L2 := [o0, o1, o2, some (.int a3), some (.int a4)]) (S2 := [.int a4]) (pc2 := 30) op92_28 rfl rfl ?_
    refine rx_ic (v := 4) (pc2 := 31) op92_30 (by decide) rfl ?_
    refine ry_ic_ge (tgt := 51) (pc2 := 34) op92_31 (by decide) (by decide) rfl (fun b10 => ?_) (fun b10 => ?_)
    · have h := (if_pos b10).symm.trans h
      refine rx_p (L2 := [o0, o1, o2, some (.int a3), some (.int a4)]) (S2 := [.int a3]) (pc2 := 35) op92_34 rfl rfl ?_
      refine rx_ic (v := 1) (pc2 := 36) op92_35 (by decide) rfl ?_
      refine rx_p (L2 := [o0, o1, o2, some (.int a3), some (.int a4)]) (S2 := [.int a4, .int 1, .int a3]) (pc2 := 38) op92_36 rfl rfl ?_
      refine rx_p (L2 := [o0, o1, o2, some (.int a3), some (.int a4)]) (S2 := [.int ((1 : Int32) <<< (a4 &&& 31)), .int a3]) (pc2 := 39) op92_38 rfl rfl ?_
      refine ry_ic_ne (tgt := 45) (pc2 := 42) op92_39 (by decide) (by decide) rfl (fun b11 => ?_) (fun b11 => ?_)
      · have h := (if_pos b11).symm.trans h
        refine rx_p (L2 := [o0, o1, o2, some (.int a3), some (.int a4)]) (S2 := [.int a4]) (pc2 := 44) op92_42 rfl rfl ?_
        cases h
        obtain ⟨rfl, rfl⟩ := hl _ _ rfl
        exact ry_ri op92_44 ms_92 rfl
      · have h := (if_neg b11).symm.trans h
        obtain ⟨x12, ex12, h⟩ := rq_bv h
        refine rx_inc (w := 1) (v := x12) (L2 := [o0, o1, o2, some (.int a3), some (.int x12)]) (pc2 := 48) op92_45 rfl (by decide) ex12 rfl rfl ?_
        refine ry_go (tgt := 28) op92_48 (by decide) (by decide) ?_
        exact ih _ _ _ _ _ h
    · have h := (if_neg b10).symm.trans h
      cases h
      exact hr _ rfl _ _ _ _ _
set_option maxHeartbeats 4000000 in
set_option maxRecDepth 20000 in
theorem lt_sure_ok (xs : List Int32) {d : Nat} (hd : 41 ≤ d) {n : Nat} {a1 : Int32} {m mO : rn_Mem} {rO : Int32} (h : lt_sure n a1 m = some (rO, mO)) : rn_R xs d 92 0 (rn_ent 5 [.ref 0, .int a1]) [] (rn_SH, m) (some (.int rO)) (rn_SH, mO) := by
  obtain ⟨d, rfl⟩ : ∃ e, d = e + 1 := ⟨d - 1, by omega⟩
  unfold lt_sure at h
  show rn_R xs (d + 1) 92 0 [some (.ref 0), some (.int a1), none, none, none] [] (rn_SH, m) (some (.int rO)) (rn_SH, mO)
  refine rx_p (L2 := [some (.ref 0), some (.int a1), none, none, none]) (S2 := [.ref 0]) (pc2 := 1) op92_0 rfl rfl ?_
  refine rx_p (L2 := [some (.ref 0), some (.int a1), none, none, none]) (S2 := [.int a1, .ref 0]) (pc2 := 2) op92_1 rfl rfl ?_
  obtain ⟨⟨r2, m1⟩, f3, h⟩ := rq_bind h
  try dsimp only at h
  refine ry_iv (p := 0) (vs := [.int a1]) (T := []) (pc2 := 5) op92_2 ms_90 (by decide) rfl rfl (Nat.le_of_ble_eq_true rfl) (Nat.le_of_ble_eq_true rfl) sp_0 (lt_refusalOf_ok xs (by omega)  f3) rfl ?_
  show rn_R _ _ _ _ _ [.int r2] _ _ _
  refine rx_s (L2 := [some (.ref 0), some (.int a1), some (.int r2), none, none]) (pc2 := 6) op92_5 rfl rfl rfl ?_
  refine rx_p (L2 := [some (.ref 0), some (.int a1), some (.int r2), none, none]) (S2 := [.int r2]) (pc2 := 7) op92_6 rfl rfl ?_
  refine ry_if_eq (tgt := 12) (pc2 := 10) op92_7 (by decide) (by decide) rfl (fun b4 => ?_) (fun b4 => ?_)
  · have h := (if_pos b4).symm.trans h
    refine rx_p (L2 := [some (.ref 0), some (.int a1), some (.int r2), none, none]) (S2 := [.ref 0]) (pc2 := 13) op92_12 rfl rfl ?_
    obtain ⟨m5, f6, h⟩ := rq_bind h
    try dsimp only at h
    refine ry_iv (p := 0) (vs := []) (T := []) (pc2 := 16) op92_13 ms_60 (by decide) rfl rfl (Nat.le_of_ble_eq_true rfl) (Nat.le_of_ble_eq_true rfl) sp_0 (lt_survey_ok xs (by omega)  f6) rfl ?_
    show rn_R _ _ _ _ _ [] _ _ _
    refine rx_p (L2 := [some (.ref 0), some (.int a1), some (.int r2), none, none]) (S2 := [.ref 0]) (pc2 := 17) op92_16 rfl rfl ?_
    refine rx_gf (v := .ref 51) (pc2 := 20) op92_17 sp_0 rfl rfl rfl ?_
    refine rx_p (L2 := [some (.ref 0), some (.int a1), some (.int r2), none, none]) (S2 := [.int a1, .ref 51]) (pc2 := 21) op92_20 rfl rfl ?_
    obtain ⟨⟨r8, m7⟩, f9, h⟩ := rq_bind h
    try dsimp only at h
    refine ry_iv (p := 51) (vs := [.int a1]) (T := []) (pc2 := 24) op92_21 ms_91 (by decide) rfl rfl (Nat.le_of_ble_eq_true rfl) (Nat.le_of_ble_eq_true rfl) sp_51 (se_holdersOf_ok xs (by omega)  f9) rfl ?_
    show rn_R _ _ _ _ _ [.int r8] _ _ _
    refine rx_s (L2 := [some (.ref 0), some (.int a1), some (.int r2), some (.int r8), none]) (pc2 := 25) op92_24 rfl rfl rfl ?_
    refine rx_ic (v := 0) (pc2 := 26) op92_25 (by decide) rfl ?_
    refine rx_s (L2 := [some (.ref 0), some (.int a1), some (.int r2), some (.int r8), some (.int 0)]) (pc2 := 28) op92_26 rfl rfl rfl ?_
    obtain ⟨wf19, f19, h⟩ := rq_bind h
    refine lt_sure_l28_ok xs hd (fun v0 m0 eq => ?_) (fun m13 eq => ?_) _ _ _ _ _ _  f19
    · subst eq
      try dsimp only at h
      cases h
      exact ⟨rfl, rfl⟩
    · subst eq
      try dsimp only at h
      intro o14 o15 o16 o17 o18
      refine rx_bp (v := (-4)) (pc2 := 53) op92_51 (by decide) rfl ?_
      obtain ⟨rfl, rfl⟩ := rq_ret h
      exact ry_ri op92_53 ms_92 rfl
  · have h := (if_neg b4).symm.trans h
    refine rx_p (L2 := [some (.ref 0), some (.int a1), some (.int r2), none, none]) (S2 := [.int r2]) (pc2 := 11) op92_10 rfl rfl ?_
    obtain ⟨rfl, rfl⟩ := rq_ret h
    exact ry_ri op92_11 ms_92 rfl
/-! ta_unseenAhead -/
theorem op94_0 : rn_op 94 0 = some (.iconst 0, 1, 0, 0, 0) := by decide +kernel
theorem op94_1 : rn_op 94 1 = some (.istore_n 3, 1, 0, 0, 0) := by decide +kernel
theorem op94_2 : rn_op 94 2 = some (.iconst 0, 1, 0, 0, 0) := by decide +kernel
theorem op94_3 : rn_op 94 3 = some (.istore 4, 2, 0, 0, 0) := by decide +kernel
theorem op94_5 : rn_op 94 5 = some (.iload 4, 2, 0, 0, 0) := by decide +kernel
theorem op94_7 : rn_op 94 7 = some (.iload_n 1, 1, 0, 0, 0) := by decide +kernel
theorem op94_8 : rn_op 94 8 = some (.if_icmp .gt 60, 3, 0, 0, 0) := by decide +kernel
theorem op94_11 : rn_op 94 11 = some (.iload 4, 2, 0, 0, 0) := by decide +kernel
theorem op94_13 : rn_op 94 13 = some (.iload_n 1, 1, 0, 0, 0) := by decide +kernel
theorem op94_14 : rn_op 94 14 = some (.if_icmp .ge 13, 3, 0, 0, 0) := by decide +kernel
theorem op94_17 : rn_op 94 17 = some (.aload_n 0, 1, 0, 0, 0) := by decide +kernel
theorem op94_18 : rn_op 94 18 = some (.getfield 9, 3, 7, 1, 3) := by decide +kernel
theorem op94_21 : rn_op 94 21 = some (.iload 4, 2, 0, 0, 0) := by decide +kernel
theorem op94_23 : rn_op 94 23 = some (.iaload, 1, 0, 0, 0) := by decide +kernel
theorem op94_24 : rn_op 94 24 = some (.goto 4, 3, 0, 0, 0) := by decide +kernel
theorem op94_27 : rn_op 94 27 = some (.iload_n 2, 1, 0, 0, 0) := by decide +kernel
theorem op94_28 : rn_op 94 28 = some (.istore 5, 2, 0, 0, 0) := by decide +kernel
theorem op94_30 : rn_op 94 30 = some (.iconst 0, 1, 0, 0, 0) := by decide +kernel
theorem op94_31 : rn_op 94 31 = some (.istore 6, 2, 0, 0, 0) := by decide +kernel
theorem op94_33 : rn_op 94 33 = some (.iload 6, 2, 0, 0, 0) := by decide +kernel
theorem op94_35 : rn_op 94 35 = some (.iload 5, 2, 0, 0, 0) := by decide +kernel
theorem op94_37 : rn_op 94 37 = some (.if_icmp .ge 25, 3, 0, 0, 0) := by decide +kernel
theorem op94_40 : rn_op 94 40 = some (.aload_n 0, 1, 0, 0, 0) := by decide +kernel
theorem op94_41 : rn_op 94 41 = some (.iload 4, 2, 0, 0, 0) := by decide +kernel
theorem op94_43 : rn_op 94 43 = some (.iload 6, 2, 0, 0, 0) := by decide +kernel
theorem op94_45 : rn_op 94 45 = some (.invokevirtual 39, 3, 48, 3, 7) := by decide +kernel
theorem op94_48 : rn_op 94 48 = some (.bipush (-4), 2, 0, 0, 0) := by decide +kernel
theorem op94_50 : rn_op 94 50 = some (.if_icmp .ne 6, 3, 0, 0, 0) := by decide +kernel
theorem op94_53 : rn_op 94 53 = some (.iinc 3 1, 3, 0, 0, 0) := by decide +kernel
theorem op94_56 : rn_op 94 56 = some (.iinc 6 1, 3, 0, 0, 0) := by decide +kernel
theorem op94_59 : rn_op 94 59 = some (.goto (-26), 3, 0, 0, 0) := by decide +kernel
theorem op94_62 : rn_op 94 62 = some (.iinc 4 1, 3, 0, 0, 0) := by decide +kernel
theorem op94_65 : rn_op 94 65 = some (.goto (-60), 3, 0, 0, 0) := by decide +kernel
theorem op94_68 : rn_op 94 68 = some (.iload_n 3, 1, 0, 0, 0) := by decide +kernel
theorem op94_69 : rn_op 94 69 = some (.iconst 2, 1, 0, 0, 0) := by decide +kernel
theorem op94_70 : rn_op 94 70 = some (.invokestatic 43, 3, 21, 2, 0) := by decide +kernel
theorem op94_73 : rn_op 94 73 = some (.ireturn, 1, 0, 0, 0) := by decide +kernel
def ta_unseenAhead_l33 (q0 : Nat) (a1 : Int32) (a2 : Int32) (a4 : Int32) (a5 : Int32) : Nat → Int32 → Int32 → rn_Mem → Option (Int32 × rn_Mem)
  | 0, _, _, _ => none
  | n + 1, a3, a6, m =>
    if a6 < a5 then
      (ta_cardAt n q0 a4 a6 m).bind fun (r9, m8) =>
      (show Option (Int32) from
        if r9 = (-4) then
          (some (a3 + 1)).bind fun (x12 : Int32) =>
          some (x12)
        else
          some (a3)).bind fun x13 =>
      (some (a6 + 1)).bind fun (x14 : Int32) =>
      ta_unseenAhead_l33 q0 a1 a2 a4 a5 n x13 x14 m8
    else
      some (a3, m)
def ta_unseenAhead_l5 (q0 : Nat) (a1 : Int32) (a2 : Int32) : Nat → Int32 → Int32 → rn_Mem → Option (Int32 × rn_Mem)
  | 0, _, _, _ => none
  | n + 1, a3, a4, m =>
    if a1 < a4 then
      some (a3, m)
    else
      (show Option (Int32) from
        if a4 < a1 then
          if rn_in a4 4 = true then
            some (m.1 (q0 + 1) a4.toNatClampNeg)
          else none
        else
          some (a2)).bind fun x6 =>
      (ta_unseenAhead_l33 q0 a1 a2 a4 x6 n a3 0 m).bind fun (x17, m16) =>
      (some (a4 + 1)).bind fun (x20 : Int32) =>
      ta_unseenAhead_l5 q0 a1 a2 n x17 x20 m16
def ta_unseenAhead (n : Nat) (q0 : Nat) (a1 : Int32) (a2 : Int32) (m : rn_Mem) : Option (Int32 × rn_Mem) :=
  (ta_unseenAhead_l5 q0 a1 a2 n 0 0 m).bind fun (x27, m23) =>
  (ja_min n x27 2 m23).bind fun (r32, m31) =>
  some (r32, m31)
set_option maxHeartbeats 4000000 in
set_option maxRecDepth 20000 in
theorem ta_unseenAhead_l33_ok (xs : List Int32) {d : Nat} (hd : 1 ≤ d + 1) {q0 : Nat} {a1 : Int32} {a2 : Int32} {a4 : Int32} {a5 : Int32} {r : Option Value} {τ : rn_H} {out : Int32 × rn_Mem} (hr : ∀ (z3 : Int32) (mO : rn_Mem), out = (z3, mO) → ∀ (o5 o6 : Option Value), rn_R xs (d + 1) 94 62 [some (.ref q0), some (.int a1), some (.int a2), some (.int z3), some (.int a4), o5, o6] [] (rn_SH, mO) r τ) : ∀ (n : Nat) (a3 : Int32) (a6 : Int32) (m : rn_Mem), sA_Table q0 → ta_unseenAhead_l33 q0 a1 a2 a4 a5 n a3 a6 m = some out → rn_R xs (d + 1) 94 33 [some (.ref q0), some (.int a1), some (.int a2), some (.int a3), some (.int a4), some (.int a5), some (.int a6)] [] (rn_SH, m) r τ := by
  intro n
  induction n with
  | zero =>
    intro _ _ _ _ h
    cases h
  | succ n ih =>
    intro a3 a6 m hq0 h
    unfold ta_unseenAhead_l33 at h
    try dsimp only at h
    refine rx_p (L2 := [some (.ref q0), some (.int a1), some (.int a2), some (.int a3), some (.int a4), some (.int a5), some (.int a6)]) (S2 := [.int a6]) (pc2 := 35) op94_33 rfl rfl ?_
    refine rx_p (L2 := [some (.ref q0), some (.int a1), some (.int a2), some (.int a3), some (.int a4), some (.int a5), some (.int a6)]) (S2 := [.int a5, .int a6]) (pc2 := 37) op94_35 rfl rfl ?_
    refine ry_ic_ge (tgt := 62) (pc2 := 40) op94_37 (by decide) (by decide) rfl (fun b7 => ?_) (fun b7 => ?_)
    · have h := (if_pos b7).symm.trans h
      refine rx_p (L2 := [some (.ref q0), some (.int a1), some (.int a2), some (.int a3), some (.int a4), some (.int a5), some (.int a6)]) (S2 := [.ref q0]) (pc2 := 41) op94_40 rfl rfl ?_
      refine rx_p (L2 := [some (.ref q0), some (.int a1), some (.int a2), some (.int a3), some (.int a4), some (.int a5), some (.int a6)]) (S2 := [.int a4, .ref q0]) (pc2 := 43) op94_41 rfl rfl ?_
      refine rx_p (L2 := [some (.ref q0), some (.int a1), some (.int a2), some (.int a3), some (.int a4), some (.int a5), some (.int a6)]) (S2 := [.int a6, .int a4, .ref q0]) (pc2 := 45) op94_43 rfl rfl ?_
      obtain ⟨⟨r9, m8⟩, f10, h⟩ := rq_bind h
      try dsimp only at h
      refine ry_iv (p := q0) (vs := [.int a4, .int a6]) (T := []) (pc2 := 48) op94_45 ms_48 (by decide) rfl rfl (Nat.le_of_ble_eq_true rfl) (Nat.le_of_ble_eq_true rfl) (hq0.1) (ta_cardAt_ok xs (by omega) hq0 f10) rfl ?_
      show rn_R _ _ _ _ _ [.int r9] _ _ _
      refine rx_bp (v := (-4)) (pc2 := 50) op94_48 (by decide) rfl ?_
      obtain ⟨x13, gc15, h⟩ := rq_bind h
      try dsimp only at h
      have c15 : ∀ (_ : Unit), rn_R xs (d + 1) 94 56 [some (.ref q0), some (.int a1), some (.int a2), some (.int x13), some (.int a4), some (.int a5), some (.int a6)] [] (rn_SH, m8) r τ := by
        intro _
        obtain ⟨x14, ex14, h⟩ := rq_bv h
        refine rx_inc (w := 1) (v := x14) (L2 := [some (.ref q0), some (.int a1), some (.int a2), some (.int x13), some (.int a4), some (.int a5), some (.int x14)]) (pc2 := 59) op94_56 rfl (by decide) ex14 rfl rfl ?_
        refine ry_go (tgt := 33) op94_59 (by decide) (by decide) ?_
        exact ih _ _ _ hq0 h
      refine ry_ic_ne (tgt := 56) (pc2 := 53) op94_50 (by decide) (by decide) rfl (fun b11 => ?_) (fun b11 => ?_)
      · have gc15 := (if_pos b11).symm.trans gc15
        obtain ⟨x12, ex12, gc15⟩ := rq_bv gc15
        refine rx_inc (w := 1) (v := x12) (L2 := [some (.ref q0), some (.int a1), some (.int a2), some (.int x12), some (.int a4), some (.int a5), some (.int a6)]) (pc2 := 56) op94_53 rfl (by decide) ex12 rfl rfl ?_
        cases gc15
        exact c15 ()
      · have gc15 := (if_neg b11).symm.trans gc15
        cases gc15
        exact c15 ()
    · have h := (if_neg b7).symm.trans h
      cases h
      exact hr _ _ rfl _ _
set_option maxHeartbeats 4000000 in
set_option maxRecDepth 20000 in
theorem ta_unseenAhead_l5_ok (xs : List Int32) {d : Nat} (hd : 1 ≤ d + 1) {q0 : Nat} {a1 : Int32} {a2 : Int32} {r : Option Value} {τ : rn_H} {out : Int32 × rn_Mem} (hr : ∀ (z3 : Int32) (mO : rn_Mem), out = (z3, mO) → ∀ (o0 o1 o2 o4 o5 o6 : Option Value), rn_R xs (d + 1) 94 68 [o0, o1, o2, some (.int z3), o4, o5, o6] [] (rn_SH, mO) r τ) : ∀ (n : Nat) (a3 : Int32) (a4 : Int32) (o5 o6 : Option Value) (m : rn_Mem), sA_Table q0 → ta_unseenAhead_l5 q0 a1 a2 n a3 a4 m = some out → rn_R xs (d + 1) 94 5 [some (.ref q0), some (.int a1), some (.int a2), some (.int a3), some (.int a4), o5, o6] [] (rn_SH, m) r τ := by
  intro n
  induction n with
  | zero =>
    intro _ _ _ _ _ _ h
    cases h
  | succ n ih =>
    intro a3 a4 o5 o6 m hq0 h
    unfold ta_unseenAhead_l5 at h
    try dsimp only at h
    refine rx_p (L2 := [some (.ref q0), some (.int a1), some (.int a2), some (.int a3), some (.int a4), o5, o6]) (S2 := [.int a4]) (pc2 := 7) op94_5 rfl rfl ?_
    refine rx_p (L2 := [some (.ref q0), some (.int a1), some (.int a2), some (.int a3), some (.int a4), o5, o6]) (S2 := [.int a1, .int a4]) (pc2 := 8) op94_7 rfl rfl ?_
    refine ry_ic_gt (tgt := 68) (pc2 := 11) op94_8 (by decide) (by decide) rfl (fun b1 => ?_) (fun b1 => ?_)
    · have h := (if_pos b1).symm.trans h
      cases h
      exact hr _ _ rfl _ _ _ _ _ _
    · have h := (if_neg b1).symm.trans h
      refine rx_p (L2 := [some (.ref q0), some (.int a1), some (.int a2), some (.int a3), some (.int a4), o5, o6]) (S2 := [.int a4]) (pc2 := 13) op94_11 rfl rfl ?_
      refine rx_p (L2 := [some (.ref q0), some (.int a1), some (.int a2), some (.int a3), some (.int a4), o5, o6]) (S2 := [.int a1, .int a4]) (pc2 := 14) op94_13 rfl rfl ?_
      obtain ⟨x6, gc22, h⟩ := rq_bind h
      try dsimp only at h
      have c22 : ∀ (o4 o5 : Option Value), rn_R xs (d + 1) 94 28 [some (.ref q0), some (.int a1), some (.int a2), some (.int a3), some (.int a4), o4, o5] [.int x6] (rn_SH, m) r τ := by
        intro o4 o5
        refine rx_s (L2 := [some (.ref q0), some (.int a1), some (.int a2), some (.int a3), some (.int a4), some (.int x6), o5]) (pc2 := 30) op94_28 rfl rfl rfl ?_
        refine rx_ic (v := 0) (pc2 := 31) op94_30 (by decide) rfl ?_
        refine rx_s (L2 := [some (.ref q0), some (.int a1), some (.int a2), some (.int a3), some (.int a4), some (.int x6), some (.int 0)]) (pc2 := 33) op94_31 rfl rfl rfl ?_
        obtain ⟨wf21, f21, h⟩ := rq_bind h
        refine ta_unseenAhead_l33_ok xs hd (fun x17 m16 eq => ?_) _ _ _ _ hq0 f21
        subst eq
        try dsimp only at h
        intro o18 o19
        obtain ⟨x20, ex20, h⟩ := rq_bv h
        refine rx_inc (w := 1) (v := x20) (L2 := [some (.ref q0), some (.int a1), some (.int a2), some (.int x17), some (.int x20), o18, o19]) (pc2 := 65) op94_62 rfl (by decide) ex20 rfl rfl ?_
        refine ry_go (tgt := 5) op94_65 (by decide) (by decide) ?_
        exact ih _ _ _ _ _ hq0 h
      refine ry_ic_ge (tgt := 27) (pc2 := 17) op94_14 (by decide) (by decide) rfl (fun b2 => ?_) (fun b2 => ?_)
      · have gc22 := (if_pos b2).symm.trans gc22
        refine rx_p (L2 := [some (.ref q0), some (.int a1), some (.int a2), some (.int a3), some (.int a4), o5, o6]) (S2 := [.ref q0]) (pc2 := 18) op94_17 rfl rfl ?_
        refine rx_gf (v := .ref (q0 + 1)) (pc2 := 21) op94_18 (hq0.1) rfl rfl rfl ?_
        refine rx_p (L2 := [some (.ref q0), some (.int a1), some (.int a2), some (.int a3), some (.int a4), o5, o6]) (S2 := [.int a4, .ref (q0 + 1)]) (pc2 := 23) op94_21 rfl rfl ?_
        obtain ⟨k3, gc22⟩ := rq_chk gc22
        refine rx_ia (pc2 := 24) op94_23 (rn_shlt (hq0.2.1)) (hq0.2.1) k3 rfl rfl ?_
        refine ry_go (tgt := 28) op94_24 (by decide) (by decide) ?_
        cases gc22
        exact c22 _ _
      · have gc22 := (if_neg b2).symm.trans gc22
        refine rx_p (L2 := [some (.ref q0), some (.int a1), some (.int a2), some (.int a3), some (.int a4), o5, o6]) (S2 := [.int a2]) (pc2 := 28) op94_27 rfl rfl ?_
        cases gc22
        exact c22 _ _
set_option maxHeartbeats 4000000 in
set_option maxRecDepth 20000 in
theorem ta_unseenAhead_ok (xs : List Int32) {d : Nat} (hd : 1 ≤ d) {n : Nat} {q0 : Nat} {a1 : Int32} {a2 : Int32} {m mO : rn_Mem} {rO : Int32} (hq0 : sA_Table q0) (h : ta_unseenAhead n q0 a1 a2 m = some (rO, mO)) : rn_R xs d 94 0 (rn_ent 7 [.ref q0, .int a1, .int a2]) [] (rn_SH, m) (some (.int rO)) (rn_SH, mO) := by
  obtain ⟨d, rfl⟩ : ∃ e, d = e + 1 := ⟨d - 1, by omega⟩
  unfold ta_unseenAhead at h
  show rn_R xs (d + 1) 94 0 [some (.ref q0), some (.int a1), some (.int a2), none, none, none, none] [] (rn_SH, m) (some (.int rO)) (rn_SH, mO)
  refine rx_ic (v := 0) (pc2 := 1) op94_0 (by decide) rfl ?_
  refine rx_s (L2 := [some (.ref q0), some (.int a1), some (.int a2), some (.int 0), none, none, none]) (pc2 := 2) op94_1 rfl rfl rfl ?_
  refine rx_ic (v := 0) (pc2 := 3) op94_2 (by decide) rfl ?_
  refine rx_s (L2 := [some (.ref q0), some (.int a1), some (.int a2), some (.int 0), some (.int 0), none, none]) (pc2 := 5) op94_3 rfl rfl rfl ?_
  obtain ⟨wf34, f34, h⟩ := rq_bind h
  refine ta_unseenAhead_l5_ok xs hd (fun x27 m23 eq => ?_) _ _ _ _ _ _ hq0 f34
  subst eq
  try dsimp only at h
  intro o24 o25 o26 o28 o29 o30
  refine rx_p (L2 := [o24, o25, o26, some (.int x27), o28, o29, o30]) (S2 := [.int x27]) (pc2 := 69) op94_68 rfl rfl ?_
  refine rx_ic (v := 2) (pc2 := 70) op94_69 (by decide) rfl ?_
  obtain ⟨⟨r32, m31⟩, f33, h⟩ := rq_bind h
  try dsimp only at h
  refine ry_is (vs := [.int x27, .int 2]) (T := []) (pc2 := 73) op94_70 (by decide) ms_21 (by decide) rfl rfl (Nat.le_of_ble_eq_true rfl) (Nat.le_of_ble_eq_true rfl) (ja_min_ok xs (by omega)  f33) rfl ?_
  show rn_R _ _ _ _ _ [.int r32] _ _ _
  obtain ⟨rfl, rfl⟩ := rq_ret h
  exact ry_ri op94_73 ms_94 rfl
/-! lt_under -/
theorem op93_0 : rn_op 93 0 = some (.iload_n 1, 1, 0, 0, 0) := by decide +kernel
theorem op93_1 : rn_op 93 1 = some (.invokestatic 132, 3, 39, 1, 0) := by decide +kernel
theorem op93_4 : rn_op 93 4 = some (.ifCond .ne 13, 3, 0, 0, 0) := by decide +kernel
theorem op93_7 : rn_op 93 7 = some (.iload_n 2, 1, 0, 0, 0) := by decide +kernel
theorem op93_8 : rn_op 93 8 = some (.ifCond .lt 9, 3, 0, 0, 0) := by decide +kernel
theorem op93_11 : rn_op 93 11 = some (.iload_n 2, 1, 0, 0, 0) := by decide +kernel
theorem op93_12 : rn_op 93 12 = some (.bipush 12, 2, 0, 0, 0) := by decide +kernel
theorem op93_14 : rn_op 93 14 = some (.if_icmp .lt 5, 3, 0, 0, 0) := by decide +kernel
theorem op93_17 : rn_op 93 17 = some (.iconst (-1), 1, 0, 0, 0) := by decide +kernel
theorem op93_18 : rn_op 93 18 = some (.ireturn, 1, 0, 0, 0) := by decide +kernel
theorem op93_19 : rn_op 93 19 = some (.aload_n 0, 1, 0, 0, 0) := by decide +kernel
theorem op93_20 : rn_op 93 20 = some (.getfield 19, 3, 10, 1, 3) := by decide +kernel
theorem op93_23 : rn_op 93 23 = some (.getfield 93, 3, 6, 1, 3) := by decide +kernel
theorem op93_26 : rn_op 93 26 = some (.getfield 136, 3, 7, 0, 2) := by decide +kernel
theorem op93_29 : rn_op 93 29 = some (.ifCond .ne 6, 3, 0, 0, 0) := by decide +kernel
theorem op93_32 : rn_op 93 32 = some (.bipush (-2), 2, 0, 0, 0) := by decide +kernel
theorem op93_34 : rn_op 93 34 = some (.ireturn, 1, 0, 0, 0) := by decide +kernel
theorem op93_35 : rn_op 93 35 = some (.iload_n 1, 1, 0, 0, 0) := by decide +kernel
theorem op93_36 : rn_op 93 36 = some (.aload_n 0, 1, 0, 0, 0) := by decide +kernel
theorem op93_37 : rn_op 93 37 = some (.getfield 19, 3, 10, 1, 3) := by decide +kernel
theorem op93_40 : rn_op 93 40 = some (.getfield 62, 3, 6, 0, 3) := by decide +kernel
theorem op93_43 : rn_op 93 43 = some (.getfield 118, 3, 1, 1, 0) := by decide +kernel
theorem op93_46 : rn_op 93 46 = some (.if_icmp .ge 19, 3, 0, 0, 0) := by decide +kernel
theorem op93_49 : rn_op 93 49 = some (.iload_n 2, 1, 0, 0, 0) := by decide +kernel
theorem op93_50 : rn_op 93 50 = some (.aload_n 0, 1, 0, 0, 0) := by decide +kernel
theorem op93_51 : rn_op 93 51 = some (.getfield 19, 3, 10, 1, 3) := by decide +kernel
theorem op93_54 : rn_op 93 54 = some (.getfield 93, 3, 6, 1, 3) := by decide +kernel
theorem op93_57 : rn_op 93 57 = some (.getfield 137, 3, 7, 1, 3) := by decide +kernel
theorem op93_60 : rn_op 93 60 = some (.iload_n 1, 1, 0, 0, 0) := by decide +kernel
theorem op93_61 : rn_op 93 61 = some (.iaload, 1, 0, 0, 0) := by decide +kernel
theorem op93_62 : rn_op 93 62 = some (.if_icmp .lt 5, 3, 0, 0, 0) := by decide +kernel
theorem op93_65 : rn_op 93 65 = some (.iconst (-1), 1, 0, 0, 0) := by decide +kernel
theorem op93_66 : rn_op 93 66 = some (.ireturn, 1, 0, 0, 0) := by decide +kernel
theorem op93_67 : rn_op 93 67 = some (.aload_n 0, 1, 0, 0, 0) := by decide +kernel
theorem op93_68 : rn_op 93 68 = some (.getfield 19, 3, 10, 1, 3) := by decide +kernel
theorem op93_71 : rn_op 93 71 = some (.getfield 93, 3, 6, 1, 3) := by decide +kernel
theorem op93_74 : rn_op 93 74 = some (.iload_n 1, 1, 0, 0, 0) := by decide +kernel
theorem op93_75 : rn_op 93 75 = some (.iload_n 2, 1, 0, 0, 0) := by decide +kernel
theorem op93_76 : rn_op 93 76 = some (.invokevirtual 140, 3, 48, 3, 7) := by decide +kernel
theorem op93_79 : rn_op 93 79 = some (.bipush (-4), 2, 0, 0, 0) := by decide +kernel
theorem op93_81 : rn_op 93 81 = some (.if_icmp .eq 6, 3, 0, 0, 0) := by decide +kernel
theorem op93_84 : rn_op 93 84 = some (.bipush (-2), 2, 0, 0, 0) := by decide +kernel
theorem op93_86 : rn_op 93 86 = some (.ireturn, 1, 0, 0, 0) := by decide +kernel
theorem op93_87 : rn_op 93 87 = some (.aload_n 0, 1, 0, 0, 0) := by decide +kernel
theorem op93_88 : rn_op 93 88 = some (.invokevirtual 179, 3, 60, 1, 10) := by decide +kernel
theorem op93_91 : rn_op 93 91 = some (.aload_n 0, 1, 0, 0, 0) := by decide +kernel
theorem op93_92 : rn_op 93 92 = some (.getfield 32, 3, 10, 4, 3) := by decide +kernel
theorem op93_95 : rn_op 93 95 = some (.getfield 192, 3, 4, 18, 3) := by decide +kernel
theorem op93_98 : rn_op 93 98 = some (.aload_n 0, 1, 0, 0, 0) := by decide +kernel
theorem op93_99 : rn_op 93 99 = some (.getfield 19, 3, 10, 1, 3) := by decide +kernel
theorem op93_102 : rn_op 93 102 = some (.getfield 93, 3, 6, 1, 3) := by decide +kernel
theorem op93_105 : rn_op 93 105 = some (.iload_n 1, 1, 0, 0, 0) := by decide +kernel
theorem op93_106 : rn_op 93 106 = some (.iload_n 2, 1, 0, 0, 0) := by decide +kernel
theorem op93_107 : rn_op 93 107 = some (.invokevirtual 195, 3, 94, 3, 7) := by decide +kernel
theorem op93_110 : rn_op 93 110 = some (.iaload, 1, 0, 0, 0) := by decide +kernel
theorem op93_111 : rn_op 93 111 = some (.ireturn, 1, 0, 0, 0) := by decide +kernel
def lt_under (n : Nat) (a1 : Int32) (a2 : Int32) (m : rn_Mem) : Option (Int32 × rn_Mem) :=
  (lt_isNoChair n a1 m).bind fun (r2, m1) =>
  if r2 = 0 then
    if a2 < 0 then
      some ((-1), m1)
    else
      if a2 < 12 then
        if (m1.1 5 0) = 0 then
          some ((-2), m1)
        else
          if a1 < (m1.1 4 1) then
            if rn_in a1 4 = true then
              if a2 < (m1.1 6 a1.toNatClampNeg) then
                (ta_cardAt n 5 a1 a2 m1).bind fun (r12, m11) =>
                if r12 = (-4) then
                  (lt_survey n m11).bind fun m15 =>
                  (ta_unseenAhead n 5 a1 a2 m15).bind fun (r18, m17) =>
                  if rn_in r18 3 = true then
                    some (m17.1 68 r18.toNatClampNeg, m17)
                  else none
                else
                  some ((-2), m11)
              else
                some ((-1), m1)
            else none
          else
            some ((-1), m1)
      else
        some ((-1), m1)
  else
    some ((-1), m1)
set_option maxHeartbeats 4000000 in
set_option maxRecDepth 20000 in
theorem lt_under_ok (xs : List Int32) {d : Nat} (hd : 41 ≤ d) {n : Nat} {a1 : Int32} {a2 : Int32} {m mO : rn_Mem} {rO : Int32} (h : lt_under n a1 a2 m = some (rO, mO)) : rn_R xs d 93 0 (rn_ent 3 [.ref 0, .int a1, .int a2]) [] (rn_SH, m) (some (.int rO)) (rn_SH, mO) := by
  obtain ⟨d, rfl⟩ : ∃ e, d = e + 1 := ⟨d - 1, by omega⟩
  unfold lt_under at h
  show rn_R xs (d + 1) 93 0 [some (.ref 0), some (.int a1), some (.int a2)] [] (rn_SH, m) (some (.int rO)) (rn_SH, mO)
  refine rx_p (L2 := [some (.ref 0), some (.int a1), some (.int a2)]) (S2 := [.int a1]) (pc2 := 1) op93_0 rfl rfl ?_
  obtain ⟨⟨r2, m1⟩, f3, h⟩ := rq_bind h
  try dsimp only at h
  refine ry_is (vs := [.int a1]) (T := []) (pc2 := 4) op93_1 (by decide) ms_39 (by decide) rfl rfl (Nat.le_of_ble_eq_true rfl) (Nat.le_of_ble_eq_true rfl) (lt_isNoChair_ok xs (by omega)  f3) rfl ?_
  show rn_R _ _ _ _ _ [.int r2] _ _ _
  refine ry_if_ne (tgt := 17) (pc2 := 7) op93_4 (by decide) (by decide) rfl (fun b4 => ?_) (fun b4 => ?_)
  · have h := (if_pos b4).symm.trans h
    refine rx_p (L2 := [some (.ref 0), some (.int a1), some (.int a2)]) (S2 := [.int a2]) (pc2 := 8) op93_7 rfl rfl ?_
    refine ry_if_lt (tgt := 17) (pc2 := 11) op93_8 (by decide) (by decide) rfl (fun b5 => ?_) (fun b5 => ?_)
    · have h := (if_pos b5).symm.trans h
      refine rx_ic (v := (-1)) (pc2 := 18) op93_17 (by decide) rfl ?_
      obtain ⟨rfl, rfl⟩ := rq_ret h
      exact ry_ri op93_18 ms_93 rfl
    · have h := (if_neg b5).symm.trans h
      refine rx_p (L2 := [some (.ref 0), some (.int a1), some (.int a2)]) (S2 := [.int a2]) (pc2 := 12) op93_11 rfl rfl ?_
      refine rx_bp (v := 12) (pc2 := 14) op93_12 (by decide) rfl ?_
      refine ry_ic_lt (tgt := 19) (pc2 := 17) op93_14 (by decide) (by decide) rfl (fun b6 => ?_) (fun b6 => ?_)
      · have h := (if_pos b6).symm.trans h
        refine rx_p (L2 := [some (.ref 0), some (.int a1), some (.int a2)]) (S2 := [.ref 0]) (pc2 := 20) op93_19 rfl rfl ?_
        refine rx_gf (v := .ref 3) (pc2 := 23) op93_20 sp_0 rfl rfl rfl ?_
        refine rx_gf (v := .ref 5) (pc2 := 26) op93_23 sp_3 rfl rfl rfl ?_
        refine rx_gf (v := .int (m1.1 5 0)) (pc2 := 29) op93_26 sp_5 rfl rfl rfl ?_
        refine ry_if_ne (tgt := 35) (pc2 := 32) op93_29 (by decide) (by decide) rfl (fun b7 => ?_) (fun b7 => ?_)
        · have h := (if_pos b7).symm.trans h
          refine rx_bp (v := (-2)) (pc2 := 34) op93_32 (by decide) rfl ?_
          obtain ⟨rfl, rfl⟩ := rq_ret h
          exact ry_ri op93_34 ms_93 rfl
        · have h := (if_neg b7).symm.trans h
          refine rx_p (L2 := [some (.ref 0), some (.int a1), some (.int a2)]) (S2 := [.int a1]) (pc2 := 36) op93_35 rfl rfl ?_
          refine rx_p (L2 := [some (.ref 0), some (.int a1), some (.int a2)]) (S2 := [.ref 0, .int a1]) (pc2 := 37) op93_36 rfl rfl ?_
          refine rx_gf (v := .ref 3) (pc2 := 40) op93_37 sp_0 rfl rfl rfl ?_
          refine rx_gf (v := .ref 4) (pc2 := 43) op93_40 sp_3 rfl rfl rfl ?_
          refine rx_gf (v := .int (m1.1 4 1)) (pc2 := 46) op93_43 sp_4 rfl rfl rfl ?_
          refine ry_ic_ge (tgt := 65) (pc2 := 49) op93_46 (by decide) (by decide) rfl (fun b8 => ?_) (fun b8 => ?_)
          · have h := (if_pos b8).symm.trans h
            refine rx_p (L2 := [some (.ref 0), some (.int a1), some (.int a2)]) (S2 := [.int a2]) (pc2 := 50) op93_49 rfl rfl ?_
            refine rx_p (L2 := [some (.ref 0), some (.int a1), some (.int a2)]) (S2 := [.ref 0, .int a2]) (pc2 := 51) op93_50 rfl rfl ?_
            refine rx_gf (v := .ref 3) (pc2 := 54) op93_51 sp_0 rfl rfl rfl ?_
            refine rx_gf (v := .ref 5) (pc2 := 57) op93_54 sp_3 rfl rfl rfl ?_
            refine rx_gf (v := .ref 6) (pc2 := 60) op93_57 sp_5 rfl rfl rfl ?_
            refine rx_p (L2 := [some (.ref 0), some (.int a1), some (.int a2)]) (S2 := [.int a1, .ref 6, .int a2]) (pc2 := 61) op93_60 rfl rfl ?_
            obtain ⟨k9, h⟩ := rq_chk h
            refine rx_ia (pc2 := 62) op93_61 (rn_shlt sp_6) sp_6 k9 rfl rfl ?_
            refine ry_ic_lt (tgt := 67) (pc2 := 65) op93_62 (by decide) (by decide) rfl (fun b10 => ?_) (fun b10 => ?_)
            · have h := (if_pos b10).symm.trans h
              refine rx_p (L2 := [some (.ref 0), some (.int a1), some (.int a2)]) (S2 := [.ref 0]) (pc2 := 68) op93_67 rfl rfl ?_
              refine rx_gf (v := .ref 3) (pc2 := 71) op93_68 sp_0 rfl rfl rfl ?_
              refine rx_gf (v := .ref 5) (pc2 := 74) op93_71 sp_3 rfl rfl rfl ?_
              refine rx_p (L2 := [some (.ref 0), some (.int a1), some (.int a2)]) (S2 := [.int a1, .ref 5]) (pc2 := 75) op93_74 rfl rfl ?_
              refine rx_p (L2 := [some (.ref 0), some (.int a1), some (.int a2)]) (S2 := [.int a2, .int a1, .ref 5]) (pc2 := 76) op93_75 rfl rfl ?_
              obtain ⟨⟨r12, m11⟩, f13, h⟩ := rq_bind h
              try dsimp only at h
              refine ry_iv (p := 5) (vs := [.int a1, .int a2]) (T := []) (pc2 := 79) op93_76 ms_48 (by decide) rfl rfl (Nat.le_of_ble_eq_true rfl) (Nat.le_of_ble_eq_true rfl) sp_5 (ta_cardAt_ok xs (by omega) sa_5 f13) rfl ?_
              show rn_R _ _ _ _ _ [.int r12] _ _ _
              refine rx_bp (v := (-4)) (pc2 := 81) op93_79 (by decide) rfl ?_
              refine ry_ic_eq (tgt := 87) (pc2 := 84) op93_81 (by decide) (by decide) rfl (fun b14 => ?_) (fun b14 => ?_)
              · have h := (if_pos b14).symm.trans h
                refine rx_p (L2 := [some (.ref 0), some (.int a1), some (.int a2)]) (S2 := [.ref 0]) (pc2 := 88) op93_87 rfl rfl ?_
                obtain ⟨m15, f16, h⟩ := rq_bind h
                try dsimp only at h
                refine ry_iv (p := 0) (vs := []) (T := []) (pc2 := 91) op93_88 ms_60 (by decide) rfl rfl (Nat.le_of_ble_eq_true rfl) (Nat.le_of_ble_eq_true rfl) sp_0 (lt_survey_ok xs (by omega)  f16) rfl ?_
                show rn_R _ _ _ _ _ [] _ _ _
                refine rx_p (L2 := [some (.ref 0), some (.int a1), some (.int a2)]) (S2 := [.ref 0]) (pc2 := 92) op93_91 rfl rfl ?_
                refine rx_gf (v := .ref 51) (pc2 := 95) op93_92 sp_0 rfl rfl rfl ?_
                refine rx_gf (v := .ref 68) (pc2 := 98) op93_95 sp_51 rfl rfl rfl ?_
                refine rx_p (L2 := [some (.ref 0), some (.int a1), some (.int a2)]) (S2 := [.ref 0, .ref 68]) (pc2 := 99) op93_98 rfl rfl ?_
                refine rx_gf (v := .ref 3) (pc2 := 102) op93_99 sp_0 rfl rfl rfl ?_
                refine rx_gf (v := .ref 5) (pc2 := 105) op93_102 sp_3 rfl rfl rfl ?_
                refine rx_p (L2 := [some (.ref 0), some (.int a1), some (.int a2)]) (S2 := [.int a1, .ref 5, .ref 68]) (pc2 := 106) op93_105 rfl rfl ?_
                refine rx_p (L2 := [some (.ref 0), some (.int a1), some (.int a2)]) (S2 := [.int a2, .int a1, .ref 5, .ref 68]) (pc2 := 107) op93_106 rfl rfl ?_
                obtain ⟨⟨r18, m17⟩, f19, h⟩ := rq_bind h
                try dsimp only at h
                refine ry_iv (p := 5) (vs := [.int a1, .int a2]) (T := [.ref 68]) (pc2 := 110) op93_107 ms_94 (by decide) rfl rfl (Nat.le_of_ble_eq_true rfl) (Nat.le_of_ble_eq_true rfl) sp_5 (ta_unseenAhead_ok xs (by omega) sa_5 f19) rfl ?_
                show rn_R _ _ _ _ _ [.int r18, .ref 68] _ _ _
                obtain ⟨k20, h⟩ := rq_chk h
                refine rx_ia (pc2 := 111) op93_110 (rn_shlt sp_68) sp_68 k20 rfl rfl ?_
                obtain ⟨rfl, rfl⟩ := rq_ret h
                exact ry_ri op93_111 ms_93 rfl
              · have h := (if_neg b14).symm.trans h
                refine rx_bp (v := (-2)) (pc2 := 86) op93_84 (by decide) rfl ?_
                obtain ⟨rfl, rfl⟩ := rq_ret h
                exact ry_ri op93_86 ms_93 rfl
            · have h := (if_neg b10).symm.trans h
              refine rx_ic (v := (-1)) (pc2 := 66) op93_65 (by decide) rfl ?_
              obtain ⟨rfl, rfl⟩ := rq_ret h
              exact ry_ri op93_66 ms_93 rfl
          · have h := (if_neg b8).symm.trans h
            refine rx_ic (v := (-1)) (pc2 := 66) op93_65 (by decide) rfl ?_
            obtain ⟨rfl, rfl⟩ := rq_ret h
            exact ry_ri op93_66 ms_93 rfl
      · have h := (if_neg b6).symm.trans h
        refine rx_ic (v := (-1)) (pc2 := 18) op93_17 (by decide) rfl ?_
        obtain ⟨rfl, rfl⟩ := rq_ret h
        exact ry_ri op93_18 ms_93 rfl
  · have h := (if_neg b4).symm.trans h
    refine rx_ic (v := (-1)) (pc2 := 18) op93_17 (by decide) rfl ?_
    obtain ⟨rfl, rfl⟩ := rq_ret h
    exact ry_ri op93_18 ms_93 rfl
/-! lt_isNoTrick -/
theorem op96_0 : rn_op 96 0 = some (.iload_n 0, 1, 0, 0, 0) := by decide +kernel
theorem op96_1 : rn_op 96 1 = some (.ifCond .lt 8, 3, 0, 0, 0) := by decide +kernel
theorem op96_4 : rn_op 96 4 = some (.iload_n 0, 1, 0, 0, 0) := by decide +kernel
theorem op96_5 : rn_op 96 5 = some (.iconst 4, 1, 0, 0, 0) := by decide +kernel
theorem op96_6 : rn_op 96 6 = some (.if_icmp .lt 7, 3, 0, 0, 0) := by decide +kernel
theorem op96_9 : rn_op 96 9 = some (.iconst 1, 1, 0, 0, 0) := by decide +kernel
theorem op96_10 : rn_op 96 10 = some (.goto 4, 3, 0, 0, 0) := by decide +kernel
theorem op96_13 : rn_op 96 13 = some (.iconst 0, 1, 0, 0, 0) := by decide +kernel
theorem op96_14 : rn_op 96 14 = some (.ireturn, 1, 0, 0, 0) := by decide +kernel
def lt_isNoTrick (n : Nat) (a0 : Int32) (m : rn_Mem) : Option (Int32 × rn_Mem) :=
  if a0 < 0 then
    some (1, m)
  else
    if a0 < 4 then
      some (0, m)
    else
      some (1, m)
set_option maxHeartbeats 4000000 in
set_option maxRecDepth 20000 in
theorem lt_isNoTrick_ok (xs : List Int32) {d : Nat} (hd : 0 ≤ d) {n : Nat} {a0 : Int32} {m mO : rn_Mem} {rO : Int32} (h : lt_isNoTrick n a0 m = some (rO, mO)) : rn_R xs d 96 0 (rn_ent 1 [.int a0]) [] (rn_SH, m) (some (.int rO)) (rn_SH, mO) := by
  unfold lt_isNoTrick at h
  show rn_R xs d 96 0 [some (.int a0)] [] (rn_SH, m) (some (.int rO)) (rn_SH, mO)
  refine rx_p (L2 := [some (.int a0)]) (S2 := [.int a0]) (pc2 := 1) op96_0 rfl rfl ?_
  refine ry_if_lt (tgt := 9) (pc2 := 4) op96_1 (by decide) (by decide) rfl (fun b1 => ?_) (fun b1 => ?_)
  · have h := (if_pos b1).symm.trans h
    refine rx_ic (v := 1) (pc2 := 10) op96_9 (by decide) rfl ?_
    refine ry_go (tgt := 14) op96_10 (by decide) (by decide) ?_
    obtain ⟨rfl, rfl⟩ := rq_ret h
    exact ry_rz (x := 1) op96_14 ms_96 rfl (by decide)
  · have h := (if_neg b1).symm.trans h
    refine rx_p (L2 := [some (.int a0)]) (S2 := [.int a0]) (pc2 := 5) op96_4 rfl rfl ?_
    refine rx_ic (v := 4) (pc2 := 6) op96_5 (by decide) rfl ?_
    refine ry_ic_lt (tgt := 13) (pc2 := 9) op96_6 (by decide) (by decide) rfl (fun b2 => ?_) (fun b2 => ?_)
    · have h := (if_pos b2).symm.trans h
      refine rx_ic (v := 0) (pc2 := 14) op96_13 (by decide) rfl ?_
      obtain ⟨rfl, rfl⟩ := rq_ret h
      exact ry_rz (x := 0) op96_14 ms_96 rfl (by decide)
    · have h := (if_neg b2).symm.trans h
      refine rx_ic (v := 1) (pc2 := 10) op96_9 (by decide) rfl ?_
      refine ry_go (tgt := 14) op96_10 (by decide) (by decide) ?_
      obtain ⟨rfl, rfl⟩ := rq_ret h
      exact ry_rz (x := 1) op96_14 ms_96 rfl (by decide)
/-! lt_trick -/
theorem op95_0 : rn_op 95 0 = some (.iload_n 1, 1, 0, 0, 0) := by decide +kernel
theorem op95_1 : rn_op 95 1 = some (.invokestatic 198, 3, 96, 1, 0) := by decide +kernel
theorem op95_4 : rn_op 95 4 = some (.ifCond .ne 12, 3, 0, 0, 0) := by decide +kernel
theorem op95_7 : rn_op 95 7 = some (.iload_n 2, 1, 0, 0, 0) := by decide +kernel
theorem op95_8 : rn_op 95 8 = some (.ifCond .lt 8, 3, 0, 0, 0) := by decide +kernel
theorem op95_11 : rn_op 95 11 = some (.iload_n 2, 1, 0, 0, 0) := by decide +kernel
theorem op95_12 : rn_op 95 12 = some (.iconst 1, 1, 0, 0, 0) := by decide +kernel
theorem op95_13 : rn_op 95 13 = some (.if_icmp .le 5, 3, 0, 0, 0) := by decide +kernel
theorem op95_16 : rn_op 95 16 = some (.iconst (-1), 1, 0, 0, 0) := by decide +kernel
theorem op95_17 : rn_op 95 17 = some (.ireturn, 1, 0, 0, 0) := by decide +kernel
theorem op95_18 : rn_op 95 18 = some (.aload_n 0, 1, 0, 0, 0) := by decide +kernel
theorem op95_19 : rn_op 95 19 = some (.getfield 19, 3, 10, 1, 3) := by decide +kernel
theorem op95_22 : rn_op 95 22 = some (.getfield 93, 3, 6, 1, 3) := by decide +kernel
theorem op95_25 : rn_op 95 25 = some (.getfield 136, 3, 7, 0, 2) := by decide +kernel
theorem op95_28 : rn_op 95 28 = some (.ifCond .ne 6, 3, 0, 0, 0) := by decide +kernel
theorem op95_31 : rn_op 95 31 = some (.bipush (-2), 2, 0, 0, 0) := by decide +kernel
theorem op95_33 : rn_op 95 33 = some (.ireturn, 1, 0, 0, 0) := by decide +kernel
theorem op95_34 : rn_op 95 34 = some (.iload_n 1, 1, 0, 0, 0) := by decide +kernel
theorem op95_35 : rn_op 95 35 = some (.aload_n 0, 1, 0, 0, 0) := by decide +kernel
theorem op95_36 : rn_op 95 36 = some (.getfield 19, 3, 10, 1, 3) := by decide +kernel
theorem op95_39 : rn_op 95 39 = some (.getfield 62, 3, 6, 0, 3) := by decide +kernel
theorem op95_42 : rn_op 95 42 = some (.getfield 201, 3, 1, 2, 0) := by decide +kernel
theorem op95_45 : rn_op 95 45 = some (.if_icmp .lt 5, 3, 0, 0, 0) := by decide +kernel
theorem op95_48 : rn_op 95 48 = some (.iconst (-1), 1, 0, 0, 0) := by decide +kernel
theorem op95_49 : rn_op 95 49 = some (.ireturn, 1, 0, 0, 0) := by decide +kernel
theorem op95_50 : rn_op 95 50 = some (.aload_n 0, 1, 0, 0, 0) := by decide +kernel
theorem op95_51 : rn_op 95 51 = some (.invokevirtual 179, 3, 60, 1, 10) := by decide +kernel
theorem op95_54 : rn_op 95 54 = some (.iload_n 2, 1, 0, 0, 0) := by decide +kernel
theorem op95_55 : rn_op 95 55 = some (.ifCond .ne 13, 3, 0, 0, 0) := by decide +kernel
theorem op95_58 : rn_op 95 58 = some (.aload_n 0, 1, 0, 0, 0) := by decide +kernel
theorem op95_59 : rn_op 95 59 = some (.getfield 32, 3, 10, 4, 3) := by decide +kernel
theorem op95_62 : rn_op 95 62 = some (.getfield 204, 3, 4, 15, 0) := by decide +kernel
theorem op95_65 : rn_op 95 65 = some (.goto 10, 3, 0, 0, 0) := by decide +kernel
theorem op95_68 : rn_op 95 68 = some (.aload_n 0, 1, 0, 0, 0) := by decide +kernel
theorem op95_69 : rn_op 95 69 = some (.getfield 32, 3, 10, 4, 3) := by decide +kernel
theorem op95_72 : rn_op 95 72 = some (.getfield 207, 3, 4, 16, 0) := by decide +kernel
theorem op95_75 : rn_op 95 75 = some (.iconst 4, 1, 0, 0, 0) := by decide +kernel
theorem op95_76 : rn_op 95 76 = some (.iload_n 1, 1, 0, 0, 0) := by decide +kernel
theorem op95_77 : rn_op 95 77 = some (.imul, 1, 0, 0, 0) := by decide +kernel
theorem op95_78 : rn_op 95 78 = some (.ishr, 1, 0, 0, 0) := by decide +kernel
theorem op95_79 : rn_op 95 79 = some (.bipush 15, 2, 0, 0, 0) := by decide +kernel
theorem op95_81 : rn_op 95 81 = some (.iand, 1, 0, 0, 0) := by decide +kernel
theorem op95_82 : rn_op 95 82 = some (.ireturn, 1, 0, 0, 0) := by decide +kernel
def lt_trick (n : Nat) (a1 : Int32) (a2 : Int32) (m : rn_Mem) : Option (Int32 × rn_Mem) :=
  (lt_isNoTrick n a1 m).bind fun (r2, m1) =>
  if r2 = 0 then
    if a2 < 0 then
      some ((-1), m1)
    else
      if 1 < a2 then
        some ((-1), m1)
      else
        if (m1.1 5 0) = 0 then
          some ((-2), m1)
        else
          if a1 < (m1.1 4 2) then
            (lt_survey n m1).bind fun m9 =>
            (show Option (Int32) from
              if a2 = 0 then
                some (m9.1 51 15)
              else
                some (m9.1 51 16)).bind fun x14 =>
            some ((x14 >>> (((4 : Int32) * a1) &&& 31)) &&& 15, m9)
          else
            some ((-1), m1)
  else
    some ((-1), m1)
set_option maxHeartbeats 4000000 in
set_option maxRecDepth 20000 in
theorem lt_trick_ok (xs : List Int32) {d : Nat} (hd : 41 ≤ d) {n : Nat} {a1 : Int32} {a2 : Int32} {m mO : rn_Mem} {rO : Int32} (h : lt_trick n a1 a2 m = some (rO, mO)) : rn_R xs d 95 0 (rn_ent 3 [.ref 0, .int a1, .int a2]) [] (rn_SH, m) (some (.int rO)) (rn_SH, mO) := by
  obtain ⟨d, rfl⟩ : ∃ e, d = e + 1 := ⟨d - 1, by omega⟩
  unfold lt_trick at h
  show rn_R xs (d + 1) 95 0 [some (.ref 0), some (.int a1), some (.int a2)] [] (rn_SH, m) (some (.int rO)) (rn_SH, mO)
  refine rx_p (L2 := [some (.ref 0), some (.int a1), some (.int a2)]) (S2 := [.int a1]) (pc2 := 1) op95_0 rfl rfl ?_
  obtain ⟨⟨r2, m1⟩, f3, h⟩ := rq_bind h
  try dsimp only at h
  refine ry_is (vs := [.int a1]) (T := []) (pc2 := 4) op95_1 (by decide) ms_96 (by decide) rfl rfl (Nat.le_of_ble_eq_true rfl) (Nat.le_of_ble_eq_true rfl) (lt_isNoTrick_ok xs (by omega)  f3) rfl ?_
  show rn_R _ _ _ _ _ [.int r2] _ _ _
  refine ry_if_ne (tgt := 16) (pc2 := 7) op95_4 (by decide) (by decide) rfl (fun b4 => ?_) (fun b4 => ?_)
  · have h := (if_pos b4).symm.trans h
    refine rx_p (L2 := [some (.ref 0), some (.int a1), some (.int a2)]) (S2 := [.int a2]) (pc2 := 8) op95_7 rfl rfl ?_
    refine ry_if_lt (tgt := 16) (pc2 := 11) op95_8 (by decide) (by decide) rfl (fun b5 => ?_) (fun b5 => ?_)
    · have h := (if_pos b5).symm.trans h
      refine rx_ic (v := (-1)) (pc2 := 17) op95_16 (by decide) rfl ?_
      obtain ⟨rfl, rfl⟩ := rq_ret h
      exact ry_ri op95_17 ms_95 rfl
    · have h := (if_neg b5).symm.trans h
      refine rx_p (L2 := [some (.ref 0), some (.int a1), some (.int a2)]) (S2 := [.int a2]) (pc2 := 12) op95_11 rfl rfl ?_
      refine rx_ic (v := 1) (pc2 := 13) op95_12 (by decide) rfl ?_
      refine ry_ic_le (tgt := 18) (pc2 := 16) op95_13 (by decide) (by decide) rfl (fun b6 => ?_) (fun b6 => ?_)
      · have h := (if_pos b6).symm.trans h
        refine rx_ic (v := (-1)) (pc2 := 17) op95_16 (by decide) rfl ?_
        obtain ⟨rfl, rfl⟩ := rq_ret h
        exact ry_ri op95_17 ms_95 rfl
      · have h := (if_neg b6).symm.trans h
        refine rx_p (L2 := [some (.ref 0), some (.int a1), some (.int a2)]) (S2 := [.ref 0]) (pc2 := 19) op95_18 rfl rfl ?_
        refine rx_gf (v := .ref 3) (pc2 := 22) op95_19 sp_0 rfl rfl rfl ?_
        refine rx_gf (v := .ref 5) (pc2 := 25) op95_22 sp_3 rfl rfl rfl ?_
        refine rx_gf (v := .int (m1.1 5 0)) (pc2 := 28) op95_25 sp_5 rfl rfl rfl ?_
        refine ry_if_ne (tgt := 34) (pc2 := 31) op95_28 (by decide) (by decide) rfl (fun b7 => ?_) (fun b7 => ?_)
        · have h := (if_pos b7).symm.trans h
          refine rx_bp (v := (-2)) (pc2 := 33) op95_31 (by decide) rfl ?_
          obtain ⟨rfl, rfl⟩ := rq_ret h
          exact ry_ri op95_33 ms_95 rfl
        · have h := (if_neg b7).symm.trans h
          refine rx_p (L2 := [some (.ref 0), some (.int a1), some (.int a2)]) (S2 := [.int a1]) (pc2 := 35) op95_34 rfl rfl ?_
          refine rx_p (L2 := [some (.ref 0), some (.int a1), some (.int a2)]) (S2 := [.ref 0, .int a1]) (pc2 := 36) op95_35 rfl rfl ?_
          refine rx_gf (v := .ref 3) (pc2 := 39) op95_36 sp_0 rfl rfl rfl ?_
          refine rx_gf (v := .ref 4) (pc2 := 42) op95_39 sp_3 rfl rfl rfl ?_
          refine rx_gf (v := .int (m1.1 4 2)) (pc2 := 45) op95_42 sp_4 rfl rfl rfl ?_
          refine ry_ic_lt (tgt := 50) (pc2 := 48) op95_45 (by decide) (by decide) rfl (fun b8 => ?_) (fun b8 => ?_)
          · have h := (if_pos b8).symm.trans h
            refine rx_p (L2 := [some (.ref 0), some (.int a1), some (.int a2)]) (S2 := [.ref 0]) (pc2 := 51) op95_50 rfl rfl ?_
            obtain ⟨m9, f10, h⟩ := rq_bind h
            try dsimp only at h
            refine ry_iv (p := 0) (vs := []) (T := []) (pc2 := 54) op95_51 ms_60 (by decide) rfl rfl (Nat.le_of_ble_eq_true rfl) (Nat.le_of_ble_eq_true rfl) sp_0 (lt_survey_ok xs (by omega)  f10) rfl ?_
            show rn_R _ _ _ _ _ [] _ _ _
            refine rx_p (L2 := [some (.ref 0), some (.int a1), some (.int a2)]) (S2 := [.int a2]) (pc2 := 55) op95_54 rfl rfl ?_
            obtain ⟨x14, gc15, h⟩ := rq_bind h
            try dsimp only at h
            have c15 : ∀ (o12 o13 : Option Value), rn_R xs (d + 1) 95 75 [o12, some (.int a1), o13] [.int x14] (rn_SH, m9) (some (.int rO)) (rn_SH, mO) := by
              intro o12 o13
              refine rx_ic (v := 4) (pc2 := 76) op95_75 (by decide) rfl ?_
              refine rx_p (L2 := [o12, some (.int a1), o13]) (S2 := [.int a1, .int 4, .int x14]) (pc2 := 77) op95_76 rfl rfl ?_
              refine rx_p (L2 := [o12, some (.int a1), o13]) (S2 := [.int ((4 : Int32) * a1), .int x14]) (pc2 := 78) op95_77 rfl rfl ?_
              refine rx_p (L2 := [o12, some (.int a1), o13]) (S2 := [.int (x14 >>> (((4 : Int32) * a1) &&& 31))]) (pc2 := 79) op95_78 rfl rfl ?_
              refine rx_bp (v := 15) (pc2 := 81) op95_79 (by decide) rfl ?_
              refine rx_p (L2 := [o12, some (.int a1), o13]) (S2 := [.int ((x14 >>> (((4 : Int32) * a1) &&& 31)) &&& 15)]) (pc2 := 82) op95_81 rfl rfl ?_
              obtain ⟨rfl, rfl⟩ := rq_ret h
              exact ry_ri op95_82 ms_95 rfl
            refine ry_if_ne (tgt := 68) (pc2 := 58) op95_55 (by decide) (by decide) rfl (fun b11 => ?_) (fun b11 => ?_)
            · have gc15 := (if_pos b11).symm.trans gc15
              refine rx_p (L2 := [some (.ref 0), some (.int a1), some (.int a2)]) (S2 := [.ref 0]) (pc2 := 59) op95_58 rfl rfl ?_
              refine rx_gf (v := .ref 51) (pc2 := 62) op95_59 sp_0 rfl rfl rfl ?_
              refine rx_gf (v := .int (m9.1 51 15)) (pc2 := 65) op95_62 sp_51 rfl rfl rfl ?_
              refine ry_go (tgt := 75) op95_65 (by decide) (by decide) ?_
              cases gc15
              exact c15 _ _
            · have gc15 := (if_neg b11).symm.trans gc15
              refine rx_p (L2 := [some (.ref 0), some (.int a1), some (.int a2)]) (S2 := [.ref 0]) (pc2 := 69) op95_68 rfl rfl ?_
              refine rx_gf (v := .ref 51) (pc2 := 72) op95_69 sp_0 rfl rfl rfl ?_
              refine rx_gf (v := .int (m9.1 51 16)) (pc2 := 75) op95_72 sp_51 rfl rfl rfl ?_
              cases gc15
              exact c15 _ _
          · have h := (if_neg b8).symm.trans h
            refine rx_ic (v := (-1)) (pc2 := 49) op95_48 (by decide) rfl ?_
            obtain ⟨rfl, rfl⟩ := rq_ret h
            exact ry_ri op95_49 ms_95 rfl
  · have h := (if_neg b4).symm.trans h
    refine rx_ic (v := (-1)) (pc2 := 17) op95_16 (by decide) rfl ?_
    obtain ⟨rfl, rfl⟩ := rq_ret h
    exact ry_ri op95_17 ms_95 rfl
/-! lt_first -/
theorem op97_0 : rn_op 97 0 = some (.iload_n 1, 1, 0, 0, 0) := by decide +kernel
theorem op97_1 : rn_op 97 1 = some (.iconst (-1), 1, 0, 0, 0) := by decide +kernel
theorem op97_2 : rn_op 97 2 = some (.if_icmp .lt 9, 3, 0, 0, 0) := by decide +kernel
theorem op97_5 : rn_op 97 5 = some (.iload_n 1, 1, 0, 0, 0) := by decide +kernel
theorem op97_6 : rn_op 97 6 = some (.bipush 12, 2, 0, 0, 0) := by decide +kernel
theorem op97_8 : rn_op 97 8 = some (.if_icmp .lt 5, 3, 0, 0, 0) := by decide +kernel
theorem op97_11 : rn_op 97 11 = some (.iconst (-1), 1, 0, 0, 0) := by decide +kernel
theorem op97_12 : rn_op 97 12 = some (.ireturn, 1, 0, 0, 0) := by decide +kernel
theorem op97_13 : rn_op 97 13 = some (.aload_n 0, 1, 0, 0, 0) := by decide +kernel
theorem op97_14 : rn_op 97 14 = some (.getfield 19, 3, 10, 1, 3) := by decide +kernel
theorem op97_17 : rn_op 97 17 = some (.getfield 93, 3, 6, 1, 3) := by decide +kernel
theorem op97_20 : rn_op 97 20 = some (.getfield 136, 3, 7, 0, 2) := by decide +kernel
theorem op97_23 : rn_op 97 23 = some (.ifCond .ne 6, 3, 0, 0, 0) := by decide +kernel
theorem op97_26 : rn_op 97 26 = some (.bipush (-2), 2, 0, 0, 0) := by decide +kernel
theorem op97_28 : rn_op 97 28 = some (.ireturn, 1, 0, 0, 0) := by decide +kernel
theorem op97_29 : rn_op 97 29 = some (.aload_n 0, 1, 0, 0, 0) := by decide +kernel
theorem op97_30 : rn_op 97 30 = some (.getfield 19, 3, 10, 1, 3) := by decide +kernel
theorem op97_33 : rn_op 97 33 = some (.getfield 62, 3, 6, 0, 3) := by decide +kernel
theorem op97_36 : rn_op 97 36 = some (.invokevirtual 84, 3, 23, 1, 1) := by decide +kernel
theorem op97_39 : rn_op 97 39 = some (.istore_n 2, 1, 0, 0, 0) := by decide +kernel
theorem op97_40 : rn_op 97 40 = some (.iload_n 1, 1, 0, 0, 0) := by decide +kernel
theorem op97_41 : rn_op 97 41 = some (.iload_n 2, 1, 0, 0, 0) := by decide +kernel
theorem op97_42 : rn_op 97 42 = some (.if_icmp .lt 5, 3, 0, 0, 0) := by decide +kernel
theorem op97_45 : rn_op 97 45 = some (.iconst (-1), 1, 0, 0, 0) := by decide +kernel
theorem op97_46 : rn_op 97 46 = some (.ireturn, 1, 0, 0, 0) := by decide +kernel
theorem op97_47 : rn_op 97 47 = some (.aload_n 0, 1, 0, 0, 0) := by decide +kernel
theorem op97_48 : rn_op 97 48 = some (.invokevirtual 179, 3, 60, 1, 10) := by decide +kernel
theorem op97_51 : rn_op 97 51 = some (.aload_n 0, 1, 0, 0, 0) := by decide +kernel
theorem op97_52 : rn_op 97 52 = some (.getfield 32, 3, 10, 4, 3) := by decide +kernel
theorem op97_55 : rn_op 97 55 = some (.getfield 182, 3, 4, 12, 1) := by decide +kernel
theorem op97_58 : rn_op 97 58 = some (.lconst 0, 1, 0, 0, 0) := by decide +kernel
theorem op97_59 : rn_op 97 59 = some (.lcmp, 1, 0, 0, 0) := by decide +kernel
theorem op97_60 : rn_op 97 60 = some (.ifCond .ne 6, 3, 0, 0, 0) := by decide +kernel
theorem op97_63 : rn_op 97 63 = some (.bipush (-4), 2, 0, 0, 0) := by decide +kernel
theorem op97_65 : rn_op 97 65 = some (.ireturn, 1, 0, 0, 0) := by decide +kernel
theorem op97_66 : rn_op 97 66 = some (.aload_n 0, 1, 0, 0, 0) := by decide +kernel
theorem op97_67 : rn_op 97 67 = some (.getfield 32, 3, 10, 4, 3) := by decide +kernel
theorem op97_70 : rn_op 97 70 = some (.getfield 210, 3, 4, 13, 1) := by decide +kernel
theorem op97_73 : rn_op 97 73 = some (.iconst 4, 1, 0, 0, 0) := by decide +kernel
theorem op97_74 : rn_op 97 74 = some (.iload_n 2, 1, 0, 0, 0) := by decide +kernel
theorem op97_75 : rn_op 97 75 = some (.iconst 1, 1, 0, 0, 0) := by decide +kernel
theorem op97_76 : rn_op 97 76 = some (.isub, 1, 0, 0, 0) := by decide +kernel
theorem op97_77 : rn_op 97 77 = some (.iload_n 1, 1, 0, 0, 0) := by decide +kernel
theorem op97_78 : rn_op 97 78 = some (.isub, 1, 0, 0, 0) := by decide +kernel
theorem op97_79 : rn_op 97 79 = some (.imul, 1, 0, 0, 0) := by decide +kernel
theorem op97_80 : rn_op 97 80 = some (.lshr, 1, 0, 0, 0) := by decide +kernel
theorem op97_81 : rn_op 97 81 = some (.l2i, 1, 0, 0, 0) := by decide +kernel
theorem op97_82 : rn_op 97 82 = some (.bipush 15, 2, 0, 0, 0) := by decide +kernel
theorem op97_84 : rn_op 97 84 = some (.iand, 1, 0, 0, 0) := by decide +kernel
theorem op97_85 : rn_op 97 85 = some (.ireturn, 1, 0, 0, 0) := by decide +kernel
def lt_first (n : Nat) (a1 : Int32) (m : rn_Mem) : Option (Int32 × rn_Mem) :=
  if a1 < (-1) then
    some ((-1), m)
  else
    if a1 < 12 then
      if (m.1 5 0) = 0 then
        some ((-2), m)
      else
        (ga_cards n 4 m).bind fun (r5, m4) =>
        if a1 < r5 then
          (lt_survey n m4).bind fun m8 =>
          if (lg_cmp (m8.2 51 12) 0) = 0 then
            some ((-4), m8)
          else
            some ((((m8.2 51 13) >>> (((4 : Int32) * ((r5 - 1) - a1)).toInt64 &&& 63)).toInt32) &&& 15, m8)
        else
          some ((-1), m4)
    else
      some ((-1), m)
set_option maxHeartbeats 4000000 in
set_option maxRecDepth 20000 in
theorem lt_first_ok (xs : List Int32) {d : Nat} (hd : 41 ≤ d) {n : Nat} {a1 : Int32} {m mO : rn_Mem} {rO : Int32} (h : lt_first n a1 m = some (rO, mO)) : rn_R xs d 97 0 (rn_ent 3 [.ref 0, .int a1]) [] (rn_SH, m) (some (.int rO)) (rn_SH, mO) := by
  obtain ⟨d, rfl⟩ : ∃ e, d = e + 1 := ⟨d - 1, by omega⟩
  unfold lt_first at h
  show rn_R xs (d + 1) 97 0 [some (.ref 0), some (.int a1), none] [] (rn_SH, m) (some (.int rO)) (rn_SH, mO)
  refine rx_p (L2 := [some (.ref 0), some (.int a1), none]) (S2 := [.int a1]) (pc2 := 1) op97_0 rfl rfl ?_
  refine rx_ic (v := (-1)) (pc2 := 2) op97_1 (by decide) rfl ?_
  refine ry_ic_lt (tgt := 11) (pc2 := 5) op97_2 (by decide) (by decide) rfl (fun b1 => ?_) (fun b1 => ?_)
  · have h := (if_pos b1).symm.trans h
    refine rx_ic (v := (-1)) (pc2 := 12) op97_11 (by decide) rfl ?_
    obtain ⟨rfl, rfl⟩ := rq_ret h
    exact ry_ri op97_12 ms_97 rfl
  · have h := (if_neg b1).symm.trans h
    refine rx_p (L2 := [some (.ref 0), some (.int a1), none]) (S2 := [.int a1]) (pc2 := 6) op97_5 rfl rfl ?_
    refine rx_bp (v := 12) (pc2 := 8) op97_6 (by decide) rfl ?_
    refine ry_ic_lt (tgt := 13) (pc2 := 11) op97_8 (by decide) (by decide) rfl (fun b2 => ?_) (fun b2 => ?_)
    · have h := (if_pos b2).symm.trans h
      refine rx_p (L2 := [some (.ref 0), some (.int a1), none]) (S2 := [.ref 0]) (pc2 := 14) op97_13 rfl rfl ?_
      refine rx_gf (v := .ref 3) (pc2 := 17) op97_14 sp_0 rfl rfl rfl ?_
      refine rx_gf (v := .ref 5) (pc2 := 20) op97_17 sp_3 rfl rfl rfl ?_
      refine rx_gf (v := .int (m.1 5 0)) (pc2 := 23) op97_20 sp_5 rfl rfl rfl ?_
      refine ry_if_ne (tgt := 29) (pc2 := 26) op97_23 (by decide) (by decide) rfl (fun b3 => ?_) (fun b3 => ?_)
      · have h := (if_pos b3).symm.trans h
        refine rx_bp (v := (-2)) (pc2 := 28) op97_26 (by decide) rfl ?_
        obtain ⟨rfl, rfl⟩ := rq_ret h
        exact ry_ri op97_28 ms_97 rfl
      · have h := (if_neg b3).symm.trans h
        refine rx_p (L2 := [some (.ref 0), some (.int a1), none]) (S2 := [.ref 0]) (pc2 := 30) op97_29 rfl rfl ?_
        refine rx_gf (v := .ref 3) (pc2 := 33) op97_30 sp_0 rfl rfl rfl ?_
        refine rx_gf (v := .ref 4) (pc2 := 36) op97_33 sp_3 rfl rfl rfl ?_
        obtain ⟨⟨r5, m4⟩, f6, h⟩ := rq_bind h
        try dsimp only at h
        refine ry_iv (p := 4) (vs := []) (T := []) (pc2 := 39) op97_36 ms_23 (by decide) rfl rfl (Nat.le_of_ble_eq_true rfl) (Nat.le_of_ble_eq_true rfl) sp_4 (ga_cards_ok xs (by omega) sa_4 f6) rfl ?_
        show rn_R _ _ _ _ _ [.int r5] _ _ _
        refine rx_s (L2 := [some (.ref 0), some (.int a1), some (.int r5)]) (pc2 := 40) op97_39 rfl rfl rfl ?_
        refine rx_p (L2 := [some (.ref 0), some (.int a1), some (.int r5)]) (S2 := [.int a1]) (pc2 := 41) op97_40 rfl rfl ?_
        refine rx_p (L2 := [some (.ref 0), some (.int a1), some (.int r5)]) (S2 := [.int r5, .int a1]) (pc2 := 42) op97_41 rfl rfl ?_
        refine ry_ic_lt (tgt := 47) (pc2 := 45) op97_42 (by decide) (by decide) rfl (fun b7 => ?_) (fun b7 => ?_)
        · have h := (if_pos b7).symm.trans h
          refine rx_p (L2 := [some (.ref 0), some (.int a1), some (.int r5)]) (S2 := [.ref 0]) (pc2 := 48) op97_47 rfl rfl ?_
          obtain ⟨m8, f9, h⟩ := rq_bind h
          try dsimp only at h
          refine ry_iv (p := 0) (vs := []) (T := []) (pc2 := 51) op97_48 ms_60 (by decide) rfl rfl (Nat.le_of_ble_eq_true rfl) (Nat.le_of_ble_eq_true rfl) sp_0 (lt_survey_ok xs (by omega)  f9) rfl ?_
          show rn_R _ _ _ _ _ [] _ _ _
          refine rx_p (L2 := [some (.ref 0), some (.int a1), some (.int r5)]) (S2 := [.ref 0]) (pc2 := 52) op97_51 rfl rfl ?_
          refine rx_gf (v := .ref 51) (pc2 := 55) op97_52 sp_0 rfl rfl rfl ?_
          refine rx_gf (v := .long (m8.2 51 12)) (pc2 := 58) op97_55 sp_51 rfl rfl rfl ?_
          refine rx_lc (v := 0) (pc2 := 59) op97_58 (by decide) rfl ?_
          refine rx_p (L2 := [some (.ref 0), some (.int a1), some (.int r5)]) (S2 := [.int (lg_cmp (m8.2 51 12) 0)]) (pc2 := 60) op97_59 rfl rfl ?_
          refine ry_if_ne (tgt := 66) (pc2 := 63) op97_60 (by decide) (by decide) rfl (fun b10 => ?_) (fun b10 => ?_)
          · have h := (if_pos b10).symm.trans h
            refine rx_bp (v := (-4)) (pc2 := 65) op97_63 (by decide) rfl ?_
            obtain ⟨rfl, rfl⟩ := rq_ret h
            exact ry_ri op97_65 ms_97 rfl
          · have h := (if_neg b10).symm.trans h
            refine rx_p (L2 := [some (.ref 0), some (.int a1), some (.int r5)]) (S2 := [.ref 0]) (pc2 := 67) op97_66 rfl rfl ?_
            refine rx_gf (v := .ref 51) (pc2 := 70) op97_67 sp_0 rfl rfl rfl ?_
            refine rx_gf (v := .long (m8.2 51 13)) (pc2 := 73) op97_70 sp_51 rfl rfl rfl ?_
            refine rx_ic (v := 4) (pc2 := 74) op97_73 (by decide) rfl ?_
            refine rx_p (L2 := [some (.ref 0), some (.int a1), some (.int r5)]) (S2 := [.int r5, .int 4, .long (m8.2 51 13)]) (pc2 := 75) op97_74 rfl rfl ?_
            refine rx_ic (v := 1) (pc2 := 76) op97_75 (by decide) rfl ?_
            refine rx_p (L2 := [some (.ref 0), some (.int a1), some (.int r5)]) (S2 := [.int (r5 - 1), .int 4, .long (m8.2 51 13)]) (pc2 := 77) op97_76 rfl rfl ?_
            refine rx_p (L2 := [some (.ref 0), some (.int a1), some (.int r5)]) (S2 := [.int a1, .int (r5 - 1), .int 4, .long (m8.2 51 13)]) (pc2 := 78) op97_77 rfl rfl ?_
            refine rx_p (L2 := [some (.ref 0), some (.int a1), some (.int r5)]) (S2 := [.int ((r5 - 1) - a1), .int 4, .long (m8.2 51 13)]) (pc2 := 79) op97_78 rfl rfl ?_
            refine rx_p (L2 := [some (.ref 0), some (.int a1), some (.int r5)]) (S2 := [.int ((4 : Int32) * ((r5 - 1) - a1)), .long (m8.2 51 13)]) (pc2 := 80) op97_79 rfl rfl ?_
            refine rx_p (L2 := [some (.ref 0), some (.int a1), some (.int r5)]) (S2 := [.long ((m8.2 51 13) >>> (((4 : Int32) * ((r5 - 1) - a1)).toInt64 &&& 63))]) (pc2 := 81) op97_80 rfl rfl ?_
            refine rx_p (L2 := [some (.ref 0), some (.int a1), some (.int r5)]) (S2 := [.int (((m8.2 51 13) >>> (((4 : Int32) * ((r5 - 1) - a1)).toInt64 &&& 63)).toInt32)]) (pc2 := 82) op97_81 rfl rfl ?_
            refine rx_bp (v := 15) (pc2 := 84) op97_82 (by decide) rfl ?_
            refine rx_p (L2 := [some (.ref 0), some (.int a1), some (.int r5)]) (S2 := [.int ((((m8.2 51 13) >>> (((4 : Int32) * ((r5 - 1) - a1)).toInt64 &&& 63)).toInt32) &&& 15)]) (pc2 := 85) op97_84 rfl rfl ?_
            obtain ⟨rfl, rfl⟩ := rq_ret h
            exact ry_ri op97_85 ms_97 rfl
        · have h := (if_neg b7).symm.trans h
          refine rx_ic (v := (-1)) (pc2 := 46) op97_45 (by decide) rfl ?_
          obtain ⟨rfl, rfl⟩ := rq_ret h
          exact ry_ri op97_46 ms_97 rfl
    · have h := (if_neg b2).symm.trans h
      refine rx_ic (v := (-1)) (pc2 := 12) op97_11 (by decide) rfl ?_
      obtain ⟨rfl, rfl⟩ := rq_ret h
      exact ry_ri op97_12 ms_97 rfl
/-! se_findFewest -/
theorem op99_0 : rn_op 99 0 = some (.aload_n 0, 1, 0, 0, 0) := by decide +kernel
theorem op99_1 : rn_op 99 1 = some (.iconst 2, 1, 0, 0, 0) := by decide +kernel
theorem op99_2 : rn_op 99 2 = some (.putfield 76, 3, 4, 10, 0) := by decide +kernel
theorem op99_5 : rn_op 99 5 = some (.iconst 0, 1, 0, 0, 0) := by decide +kernel
theorem op99_6 : rn_op 99 6 = some (.istore_n 1, 1, 0, 0, 0) := by decide +kernel
theorem op99_7 : rn_op 99 7 = some (.iload_n 1, 1, 0, 0, 0) := by decide +kernel
theorem op99_8 : rn_op 99 8 = some (.iconst 4, 1, 0, 0, 0) := by decide +kernel
theorem op99_9 : rn_op 99 9 = some (.if_icmp .gt 32, 3, 0, 0, 0) := by decide +kernel
theorem op99_12 : rn_op 99 12 = some (.aload_n 0, 1, 0, 0, 0) := by decide +kernel
theorem op99_13 : rn_op 99 13 = some (.getfield 57, 3, 4, 19, 3) := by decide +kernel
theorem op99_16 : rn_op 99 16 = some (.iload_n 1, 1, 0, 0, 0) := by decide +kernel
theorem op99_17 : rn_op 99 17 = some (.iload_n 1, 1, 0, 0, 0) := by decide +kernel
theorem op99_18 : rn_op 99 18 = some (.aload_n 0, 1, 0, 0, 0) := by decide +kernel
theorem op99_19 : rn_op 99 19 = some (.getfield 12, 3, 4, 0, 3) := by decide +kernel
theorem op99_22 : rn_op 99 22 = some (.getfield 101, 3, 1, 1, 0) := by decide +kernel
theorem op99_25 : rn_op 99 25 = some (.if_icmp .gt 8, 3, 0, 0, 0) := by decide +kernel
theorem op99_28 : rn_op 99 28 = some (.bipush 99, 2, 0, 0, 0) := by decide +kernel
theorem op99_30 : rn_op 99 30 = some (.goto 4, 3, 0, 0, 0) := by decide +kernel
theorem op99_33 : rn_op 99 33 = some (.iconst 0, 1, 0, 0, 0) := by decide +kernel
theorem op99_34 : rn_op 99 34 = some (.iastore, 1, 0, 0, 0) := by decide +kernel
theorem op99_35 : rn_op 99 35 = some (.iinc 1 1, 3, 0, 0, 0) := by decide +kernel
theorem op99_38 : rn_op 99 38 = some (.goto (-31), 3, 0, 0, 0) := by decide +kernel
theorem op99_41 : rn_op 99 41 = some (.aload_n 0, 1, 0, 0, 0) := by decide +kernel
theorem op99_42 : rn_op 99 42 = some (.invokevirtual 98, 3, 64, 1, 4) := by decide +kernel
theorem op99_45 : rn_op 99 45 = some (.return_, 1, 0, 0, 0) := by decide +kernel
def se_findFewest_l7  : Nat → Int32 → rn_Mem → Option (rn_Mem)
  | 0, _, _ => none
  | n + 1, a1, m =>
    if 4 < a1 then
      some m
    else
      (show Option (Int32) from
        if (m.1 52 1) < a1 then
          some (0)
        else
          some (99)).bind fun x4 =>
      if rn_in a1 5 = true then
        (some (rm_i m 69 a1.toNatClampNeg x4)).bind fun (m5 : rn_Mem) =>
        (some (a1 + 1)).bind fun (x7 : Int32) =>
        se_findFewest_l7 n x7 m5
      else none
def se_findFewest (n : Nat)  (m : rn_Mem) : Option (rn_Mem) :=
  (some (rm_i m 51 10 2)).bind fun (m1 : rn_Mem) =>
  (se_findFewest_l7 n 0 m1).bind fun m9 =>
  (se_run n m9).bind fun m11 =>
  some m11
set_option maxHeartbeats 4000000 in
set_option maxRecDepth 20000 in
theorem se_findFewest_l7_ok (xs : List Int32) {d : Nat} (hd : 39 ≤ d + 1) {r : Option Value} {τ : rn_H} {out : rn_Mem} (hr : ∀ (mO : rn_Mem), out = mO → ∀ (o1 : Option Value), rn_R xs (d + 1) 99 41 [some (.ref 51), o1] [] (rn_SH, mO) r τ) : ∀ (n : Nat) (a1 : Int32) (m : rn_Mem), se_findFewest_l7 n a1 m = some out → rn_R xs (d + 1) 99 7 [some (.ref 51), some (.int a1)] [] (rn_SH, m) r τ := by
  intro n
  induction n with
  | zero =>
    intro _ _ h
    cases h
  | succ n ih =>
    intro a1 m h
    unfold se_findFewest_l7 at h
    try dsimp only at h
    refine rx_p (L2 := [some (.ref 51), some (.int a1)]) (S2 := [.int a1]) (pc2 := 8) op99_7 rfl rfl ?_
    refine rx_ic (v := 4) (pc2 := 9) op99_8 (by decide) rfl ?_
    refine ry_ic_gt (tgt := 41) (pc2 := 12) op99_9 (by decide) (by decide) rfl (fun b2 => ?_) (fun b2 => ?_)
    · have h := (if_pos b2).symm.trans h
      cases h
      exact hr _ rfl _
    · have h := (if_neg b2).symm.trans h
      refine rx_p (L2 := [some (.ref 51), some (.int a1)]) (S2 := [.ref 51]) (pc2 := 13) op99_12 rfl rfl ?_
      refine rx_gf (v := .ref 69) (pc2 := 16) op99_13 sp_51 rfl rfl rfl ?_
      refine rx_p (L2 := [some (.ref 51), some (.int a1)]) (S2 := [.int a1, .ref 69]) (pc2 := 17) op99_16 rfl rfl ?_
      refine rx_p (L2 := [some (.ref 51), some (.int a1)]) (S2 := [.int a1, .int a1, .ref 69]) (pc2 := 18) op99_17 rfl rfl ?_
      refine rx_p (L2 := [some (.ref 51), some (.int a1)]) (S2 := [.ref 51, .int a1, .int a1, .ref 69]) (pc2 := 19) op99_18 rfl rfl ?_
      refine rx_gf (v := .ref 52) (pc2 := 22) op99_19 sp_51 rfl rfl rfl ?_
      refine rx_gf (v := .int (m.1 52 1)) (pc2 := 25) op99_22 sp_52 rfl rfl rfl ?_
      obtain ⟨x4, gc8, h⟩ := rq_bind h
      try dsimp only at h
      have c8 : ∀ (_ : Unit), rn_R xs (d + 1) 99 34 [some (.ref 51), some (.int a1)] [.int x4, .int a1, .ref 69] (rn_SH, m) r τ := by
        intro _
        obtain ⟨k6, h⟩ := rq_chk h
        obtain ⟨m5, em5, h⟩ := rq_bv h
        refine rx_is (m2 := m5) (pc2 := 35) op99_34 sp_69 k6 rfl em5 rfl ?_
        obtain ⟨x7, ex7, h⟩ := rq_bv h
        refine rx_inc (w := 1) (v := x7) (L2 := [some (.ref 51), some (.int x7)]) (pc2 := 38) op99_35 rfl (by decide) ex7 rfl rfl ?_
        refine ry_go (tgt := 7) op99_38 (by decide) (by decide) ?_
        exact ih _ _ h
      refine ry_ic_gt (tgt := 33) (pc2 := 28) op99_25 (by decide) (by decide) rfl (fun b3 => ?_) (fun b3 => ?_)
      · have gc8 := (if_pos b3).symm.trans gc8
        refine rx_ic (v := 0) (pc2 := 34) op99_33 (by decide) rfl ?_
        cases gc8
        exact c8 ()
      · have gc8 := (if_neg b3).symm.trans gc8
        refine rx_bp (v := 99) (pc2 := 30) op99_28 (by decide) rfl ?_
        refine ry_go (tgt := 34) op99_30 (by decide) (by decide) ?_
        cases gc8
        exact c8 ()
set_option maxHeartbeats 4000000 in
set_option maxRecDepth 20000 in
theorem se_findFewest_ok (xs : List Int32) {d : Nat} (hd : 39 ≤ d) {n : Nat} {m mO : rn_Mem} (h : se_findFewest n  m = some mO) : rn_R xs d 99 0 (rn_ent 2 [.ref 51]) [] (rn_SH, m) none (rn_SH, mO) := by
  obtain ⟨d, rfl⟩ : ∃ e, d = e + 1 := ⟨d - 1, by omega⟩
  unfold se_findFewest at h
  show rn_R xs (d + 1) 99 0 [some (.ref 51), none] [] (rn_SH, m) none (rn_SH, mO)
  refine rx_p (L2 := [some (.ref 51), none]) (S2 := [.ref 51]) (pc2 := 1) op99_0 rfl rfl ?_
  refine rx_ic (v := 2) (pc2 := 2) op99_1 (by decide) rfl ?_
  obtain ⟨m1, em1, h⟩ := rq_bv h
  refine rx_pf (m2 := m1) (pc2 := 5) op99_2 sp_51 rfl em1 rfl ?_
  refine rx_ic (v := 0) (pc2 := 6) op99_5 (by decide) rfl ?_
  refine rx_s (L2 := [some (.ref 51), some (.int 0)]) (pc2 := 7) op99_6 rfl rfl rfl ?_
  obtain ⟨m9, f13, h⟩ := rq_bind h
  refine se_findFewest_l7_ok xs hd (fun m0 eq => ?_) _ _ _  f13
  subst eq
  try dsimp only at h
  intro o10
  refine rx_p (L2 := [some (.ref 51), o10]) (S2 := [.ref 51]) (pc2 := 42) op99_41 rfl rfl ?_
  obtain ⟨m11, f12, h⟩ := rq_bind h
  try dsimp only at h
  refine ry_iv (p := 51) (vs := []) (T := []) (pc2 := 45) op99_42 ms_64 (by decide) rfl rfl (Nat.le_of_ble_eq_true rfl) (Nat.le_of_ble_eq_true rfl) sp_51 (se_run_ok xs (by omega)  f12) rfl ?_
  show rn_R _ _ _ _ _ [] _ _ _
  obtain rfl := Option.some.inj h
  exact ry_rv op99_45 ms_99 rfl
/-! lt_fewest -/
theorem op98_0 : rn_op 98 0 = some (.iload_n 1, 1, 0, 0, 0) := by decide +kernel
theorem op98_1 : rn_op 98 1 = some (.iconst (-1), 1, 0, 0, 0) := by decide +kernel
theorem op98_2 : rn_op 98 2 = some (.if_icmp .lt 8, 3, 0, 0, 0) := by decide +kernel
theorem op98_5 : rn_op 98 5 = some (.iload_n 1, 1, 0, 0, 0) := by decide +kernel
theorem op98_6 : rn_op 98 6 = some (.iconst 4, 1, 0, 0, 0) := by decide +kernel
theorem op98_7 : rn_op 98 7 = some (.if_icmp .lt 5, 3, 0, 0, 0) := by decide +kernel
theorem op98_10 : rn_op 98 10 = some (.iconst (-1), 1, 0, 0, 0) := by decide +kernel
theorem op98_11 : rn_op 98 11 = some (.ireturn, 1, 0, 0, 0) := by decide +kernel
theorem op98_12 : rn_op 98 12 = some (.aload_n 0, 1, 0, 0, 0) := by decide +kernel
theorem op98_13 : rn_op 98 13 = some (.getfield 19, 3, 10, 1, 3) := by decide +kernel
theorem op98_16 : rn_op 98 16 = some (.getfield 93, 3, 6, 1, 3) := by decide +kernel
theorem op98_19 : rn_op 98 19 = some (.getfield 136, 3, 7, 0, 2) := by decide +kernel
theorem op98_22 : rn_op 98 22 = some (.ifCond .ne 6, 3, 0, 0, 0) := by decide +kernel
theorem op98_25 : rn_op 98 25 = some (.bipush (-2), 2, 0, 0, 0) := by decide +kernel
theorem op98_27 : rn_op 98 27 = some (.ireturn, 1, 0, 0, 0) := by decide +kernel
theorem op98_28 : rn_op 98 28 = some (.iload_n 1, 1, 0, 0, 0) := by decide +kernel
theorem op98_29 : rn_op 98 29 = some (.aload_n 0, 1, 0, 0, 0) := by decide +kernel
theorem op98_30 : rn_op 98 30 = some (.getfield 19, 3, 10, 1, 3) := by decide +kernel
theorem op98_33 : rn_op 98 33 = some (.getfield 62, 3, 6, 0, 3) := by decide +kernel
theorem op98_36 : rn_op 98 36 = some (.getfield 118, 3, 1, 1, 0) := by decide +kernel
theorem op98_39 : rn_op 98 39 = some (.if_icmp .lt 5, 3, 0, 0, 0) := by decide +kernel
theorem op98_42 : rn_op 98 42 = some (.iconst (-1), 1, 0, 0, 0) := by decide +kernel
theorem op98_43 : rn_op 98 43 = some (.ireturn, 1, 0, 0, 0) := by decide +kernel
theorem op98_44 : rn_op 98 44 = some (.aload_n 0, 1, 0, 0, 0) := by decide +kernel
theorem op98_45 : rn_op 98 45 = some (.getfield 81, 3, 10, 8, 0) := by decide +kernel
theorem op98_48 : rn_op 98 48 = some (.iconst 2, 1, 0, 0, 0) := by decide +kernel
theorem op98_49 : rn_op 98 49 = some (.iand, 1, 0, 0, 0) := by decide +kernel
theorem op98_50 : rn_op 98 50 = some (.ifCond .ne 31, 3, 0, 0, 0) := by decide +kernel
theorem op98_53 : rn_op 98 53 = some (.aload_n 0, 1, 0, 0, 0) := by decide +kernel
theorem op98_54 : rn_op 98 54 = some (.getfield 32, 3, 10, 4, 3) := by decide +kernel
theorem op98_57 : rn_op 98 57 = some (.aload_n 0, 1, 0, 0, 0) := by decide +kernel
theorem op98_58 : rn_op 98 58 = some (.getfield 19, 3, 10, 1, 3) := by decide +kernel
theorem op98_61 : rn_op 98 61 = some (.invokevirtual 213, 3, 61, 2, 4) := by decide +kernel
theorem op98_64 : rn_op 98 64 = some (.aload_n 0, 1, 0, 0, 0) := by decide +kernel
theorem op98_65 : rn_op 98 65 = some (.getfield 32, 3, 10, 4, 3) := by decide +kernel
theorem op98_68 : rn_op 98 68 = some (.invokevirtual 217, 3, 99, 1, 4) := by decide +kernel
theorem op98_71 : rn_op 98 71 = some (.aload_n 0, 1, 0, 0, 0) := by decide +kernel
theorem op98_72 : rn_op 98 72 = some (.dup, 1, 0, 0, 0) := by decide +kernel
theorem op98_73 : rn_op 98 73 = some (.getfield 81, 3, 10, 8, 0) := by decide +kernel
theorem op98_76 : rn_op 98 76 = some (.iconst 2, 1, 0, 0, 0) := by decide +kernel
theorem op98_77 : rn_op 98 77 = some (.ior, 1, 0, 0, 0) := by decide +kernel
theorem op98_78 : rn_op 98 78 = some (.putfield 81, 3, 10, 8, 0) := by decide +kernel
theorem op98_81 : rn_op 98 81 = some (.aload_n 0, 1, 0, 0, 0) := by decide +kernel
theorem op98_82 : rn_op 98 82 = some (.getfield 32, 3, 10, 4, 3) := by decide +kernel
theorem op98_85 : rn_op 98 85 = some (.getfield 220, 3, 4, 19, 3) := by decide +kernel
theorem op98_88 : rn_op 98 88 = some (.iload_n 1, 1, 0, 0, 0) := by decide +kernel
theorem op98_89 : rn_op 98 89 = some (.iconst 1, 1, 0, 0, 0) := by decide +kernel
theorem op98_90 : rn_op 98 90 = some (.iadd, 1, 0, 0, 0) := by decide +kernel
theorem op98_91 : rn_op 98 91 = some (.iaload, 1, 0, 0, 0) := by decide +kernel
theorem op98_92 : rn_op 98 92 = some (.istore_n 2, 1, 0, 0, 0) := by decide +kernel
theorem op98_93 : rn_op 98 93 = some (.iload_n 2, 1, 0, 0, 0) := by decide +kernel
theorem op98_94 : rn_op 98 94 = some (.bipush 99, 2, 0, 0, 0) := by decide +kernel
theorem op98_96 : rn_op 98 96 = some (.if_icmp .ne 8, 3, 0, 0, 0) := by decide +kernel
theorem op98_99 : rn_op 98 99 = some (.bipush (-4), 2, 0, 0, 0) := by decide +kernel
theorem op98_101 : rn_op 98 101 = some (.goto 4, 3, 0, 0, 0) := by decide +kernel
theorem op98_104 : rn_op 98 104 = some (.iload_n 2, 1, 0, 0, 0) := by decide +kernel
theorem op98_105 : rn_op 98 105 = some (.ireturn, 1, 0, 0, 0) := by decide +kernel
def lt_fewest (n : Nat) (a1 : Int32) (m : rn_Mem) : Option (Int32 × rn_Mem) :=
  if a1 < (-1) then
    some ((-1), m)
  else
    if a1 < 4 then
      if (m.1 5 0) = 0 then
        some ((-2), m)
      else
        if a1 < (m.1 4 1) then
          (show Option (rn_Mem) from
            if ((m.1 0 8) &&& 2) = 0 then
              (se_take n 3 m).bind fun m6 =>
              (se_findFewest n m6).bind fun m8 =>
              (some (rm_i m8 0 8 ((m8.1 0 8) ||| 2))).bind fun (m10 : rn_Mem) =>
              some (m10)
            else
              some (m)).bind fun m12 =>
          if rn_in (a1 + 1) 5 = true then
            (some (m12.1 69 (a1 + 1).toNatClampNeg)).bind fun (x14 : Int32) =>
            if x14 = 99 then
              some ((-4), m12)
            else
              some (x14, m12)
          else none
        else
          some ((-1), m)
    else
      some ((-1), m)
set_option maxHeartbeats 4000000 in
set_option maxRecDepth 20000 in
theorem lt_fewest_ok (xs : List Int32) {d : Nat} (hd : 40 ≤ d) {n : Nat} {a1 : Int32} {m mO : rn_Mem} {rO : Int32} (h : lt_fewest n a1 m = some (rO, mO)) : rn_R xs d 98 0 (rn_ent 3 [.ref 0, .int a1]) [] (rn_SH, m) (some (.int rO)) (rn_SH, mO) := by
  obtain ⟨d, rfl⟩ : ∃ e, d = e + 1 := ⟨d - 1, by omega⟩
  unfold lt_fewest at h
  show rn_R xs (d + 1) 98 0 [some (.ref 0), some (.int a1), none] [] (rn_SH, m) (some (.int rO)) (rn_SH, mO)
  refine rx_p (L2 := [some (.ref 0), some (.int a1), none]) (S2 := [.int a1]) (pc2 := 1) op98_0 rfl rfl ?_
  refine rx_ic (v := (-1)) (pc2 := 2) op98_1 (by decide) rfl ?_
  refine ry_ic_lt (tgt := 10) (pc2 := 5) op98_2 (by decide) (by decide) rfl (fun b1 => ?_) (fun b1 => ?_)
  · have h := (if_pos b1).symm.trans h
    refine rx_ic (v := (-1)) (pc2 := 11) op98_10 (by decide) rfl ?_
    obtain ⟨rfl, rfl⟩ := rq_ret h
    exact ry_ri op98_11 ms_98 rfl
  · have h := (if_neg b1).symm.trans h
    refine rx_p (L2 := [some (.ref 0), some (.int a1), none]) (S2 := [.int a1]) (pc2 := 6) op98_5 rfl rfl ?_
    refine rx_ic (v := 4) (pc2 := 7) op98_6 (by decide) rfl ?_
    refine ry_ic_lt (tgt := 12) (pc2 := 10) op98_7 (by decide) (by decide) rfl (fun b2 => ?_) (fun b2 => ?_)
    · have h := (if_pos b2).symm.trans h
      refine rx_p (L2 := [some (.ref 0), some (.int a1), none]) (S2 := [.ref 0]) (pc2 := 13) op98_12 rfl rfl ?_
      refine rx_gf (v := .ref 3) (pc2 := 16) op98_13 sp_0 rfl rfl rfl ?_
      refine rx_gf (v := .ref 5) (pc2 := 19) op98_16 sp_3 rfl rfl rfl ?_
      refine rx_gf (v := .int (m.1 5 0)) (pc2 := 22) op98_19 sp_5 rfl rfl rfl ?_
      refine ry_if_ne (tgt := 28) (pc2 := 25) op98_22 (by decide) (by decide) rfl (fun b3 => ?_) (fun b3 => ?_)
      · have h := (if_pos b3).symm.trans h
        refine rx_bp (v := (-2)) (pc2 := 27) op98_25 (by decide) rfl ?_
        obtain ⟨rfl, rfl⟩ := rq_ret h
        exact ry_ri op98_27 ms_98 rfl
      · have h := (if_neg b3).symm.trans h
        refine rx_p (L2 := [some (.ref 0), some (.int a1), none]) (S2 := [.int a1]) (pc2 := 29) op98_28 rfl rfl ?_
        refine rx_p (L2 := [some (.ref 0), some (.int a1), none]) (S2 := [.ref 0, .int a1]) (pc2 := 30) op98_29 rfl rfl ?_
        refine rx_gf (v := .ref 3) (pc2 := 33) op98_30 sp_0 rfl rfl rfl ?_
        refine rx_gf (v := .ref 4) (pc2 := 36) op98_33 sp_3 rfl rfl rfl ?_
        refine rx_gf (v := .int (m.1 4 1)) (pc2 := 39) op98_36 sp_4 rfl rfl rfl ?_
        refine ry_ic_lt (tgt := 44) (pc2 := 42) op98_39 (by decide) (by decide) rfl (fun b4 => ?_) (fun b4 => ?_)
        · have h := (if_pos b4).symm.trans h
          refine rx_p (L2 := [some (.ref 0), some (.int a1), none]) (S2 := [.ref 0]) (pc2 := 45) op98_44 rfl rfl ?_
          refine rx_gf (v := .int (m.1 0 8)) (pc2 := 48) op98_45 sp_0 rfl rfl rfl ?_
          refine rx_ic (v := 2) (pc2 := 49) op98_48 (by decide) rfl ?_
          refine rx_p (L2 := [some (.ref 0), some (.int a1), none]) (S2 := [.int ((m.1 0 8) &&& 2)]) (pc2 := 50) op98_49 rfl rfl ?_
          obtain ⟨m12, gc16, h⟩ := rq_bind h
          try dsimp only at h
          have c16 : ∀ (o11 : Option Value), rn_R xs (d + 1) 98 81 [some (.ref 0), some (.int a1), o11] [] (rn_SH, m12) (some (.int rO)) (rn_SH, mO) := by
            intro o11
            refine rx_p (L2 := [some (.ref 0), some (.int a1), o11]) (S2 := [.ref 0]) (pc2 := 82) op98_81 rfl rfl ?_
            refine rx_gf (v := .ref 51) (pc2 := 85) op98_82 sp_0 rfl rfl rfl ?_
            refine rx_gf (v := .ref 69) (pc2 := 88) op98_85 sp_51 rfl rfl rfl ?_
            refine rx_p (L2 := [some (.ref 0), some (.int a1), o11]) (S2 := [.int a1, .ref 69]) (pc2 := 89) op98_88 rfl rfl ?_
            refine rx_ic (v := 1) (pc2 := 90) op98_89 (by decide) rfl ?_
            refine rx_p (L2 := [some (.ref 0), some (.int a1), o11]) (S2 := [.int (a1 + 1), .ref 69]) (pc2 := 91) op98_90 rfl rfl ?_
            obtain ⟨k13, h⟩ := rq_chk h
            refine rx_ia (pc2 := 92) op98_91 (rn_shlt sp_69) sp_69 k13 rfl rfl ?_
            obtain ⟨x14, ex14, h⟩ := rq_bv h
            refine rx_s (v := x14) (L2 := [some (.ref 0), some (.int a1), some (.int x14)]) (pc2 := 93) op98_92 ex14 rfl rfl ?_
            refine rx_p (L2 := [some (.ref 0), some (.int a1), some (.int x14)]) (S2 := [.int x14]) (pc2 := 94) op98_93 rfl rfl ?_
            refine rx_bp (v := 99) (pc2 := 96) op98_94 (by decide) rfl ?_
            refine ry_ic_ne (tgt := 104) (pc2 := 99) op98_96 (by decide) (by decide) rfl (fun b15 => ?_) (fun b15 => ?_)
            · have h := (if_pos b15).symm.trans h
              refine rx_bp (v := (-4)) (pc2 := 101) op98_99 (by decide) rfl ?_
              refine ry_go (tgt := 105) op98_101 (by decide) (by decide) ?_
              obtain ⟨rfl, rfl⟩ := rq_ret h
              exact ry_ri op98_105 ms_98 rfl
            · have h := (if_neg b15).symm.trans h
              refine rx_p (L2 := [some (.ref 0), some (.int a1), some (.int x14)]) (S2 := [.int x14]) (pc2 := 105) op98_104 rfl rfl ?_
              obtain ⟨rfl, rfl⟩ := rq_ret h
              exact ry_ri op98_105 ms_98 rfl
          refine ry_if_ne (tgt := 81) (pc2 := 53) op98_50 (by decide) (by decide) rfl (fun b5 => ?_) (fun b5 => ?_)
          · have gc16 := (if_pos b5).symm.trans gc16
            refine rx_p (L2 := [some (.ref 0), some (.int a1), none]) (S2 := [.ref 0]) (pc2 := 54) op98_53 rfl rfl ?_
            refine rx_gf (v := .ref 51) (pc2 := 57) op98_54 sp_0 rfl rfl rfl ?_
            refine rx_p (L2 := [some (.ref 0), some (.int a1), none]) (S2 := [.ref 0, .ref 51]) (pc2 := 58) op98_57 rfl rfl ?_
            refine rx_gf (v := .ref 3) (pc2 := 61) op98_58 sp_0 rfl rfl rfl ?_
            obtain ⟨m6, f7, gc16⟩ := rq_bind gc16
            try dsimp only at gc16
            refine ry_iv (p := 51) (vs := [.ref 3]) (T := []) (pc2 := 64) op98_61 ms_61 (by decide) rfl rfl (Nat.le_of_ble_eq_true rfl) (Nat.le_of_ble_eq_true rfl) sp_51 (se_take_ok xs (by omega) sa_3 f7) rfl ?_
            show rn_R _ _ _ _ _ [] _ _ _
            refine rx_p (L2 := [some (.ref 0), some (.int a1), none]) (S2 := [.ref 0]) (pc2 := 65) op98_64 rfl rfl ?_
            refine rx_gf (v := .ref 51) (pc2 := 68) op98_65 sp_0 rfl rfl rfl ?_
            obtain ⟨m8, f9, gc16⟩ := rq_bind gc16
            try dsimp only at gc16
            refine ry_iv (p := 51) (vs := []) (T := []) (pc2 := 71) op98_68 ms_99 (by decide) rfl rfl (Nat.le_of_ble_eq_true rfl) (Nat.le_of_ble_eq_true rfl) sp_51 (se_findFewest_ok xs (by omega)  f9) rfl ?_
            show rn_R _ _ _ _ _ [] _ _ _
            refine rx_p (L2 := [some (.ref 0), some (.int a1), none]) (S2 := [.ref 0]) (pc2 := 72) op98_71 rfl rfl ?_
            refine rx_p (L2 := [some (.ref 0), some (.int a1), none]) (S2 := [.ref 0, .ref 0]) (pc2 := 73) op98_72 rfl rfl ?_
            refine rx_gf (v := .int (m8.1 0 8)) (pc2 := 76) op98_73 sp_0 rfl rfl rfl ?_
            refine rx_ic (v := 2) (pc2 := 77) op98_76 (by decide) rfl ?_
            refine rx_p (L2 := [some (.ref 0), some (.int a1), none]) (S2 := [.int ((m8.1 0 8) ||| 2), .ref 0]) (pc2 := 78) op98_77 rfl rfl ?_
            obtain ⟨m10, em10, gc16⟩ := rq_bv gc16
            refine rx_pf (m2 := m10) (pc2 := 81) op98_78 sp_0 rfl em10 rfl ?_
            cases gc16
            exact c16 _
          · have gc16 := (if_neg b5).symm.trans gc16
            cases gc16
            exact c16 _
        · have h := (if_neg b4).symm.trans h
          refine rx_ic (v := (-1)) (pc2 := 43) op98_42 (by decide) rfl ?_
          obtain ⟨rfl, rfl⟩ := rq_ret h
          exact ry_ri op98_43 ms_98 rfl
    · have h := (if_neg b2).symm.trans h
      refine rx_ic (v := (-1)) (pc2 := 11) op98_10 (by decide) rfl ?_
      obtain ⟨rfl, rfl⟩ := rq_ret h
      exact ry_ri op98_11 ms_98 rfl
/-! se_findDrops -/
theorem op101_0 : rn_op 101 0 = some (.aload_n 0, 1, 0, 0, 0) := by decide +kernel
theorem op101_1 : rn_op 101 1 = some (.iconst 1, 1, 0, 0, 0) := by decide +kernel
theorem op101_2 : rn_op 101 2 = some (.putfield 76, 3, 4, 10, 0) := by decide +kernel
theorem op101_5 : rn_op 101 5 = some (.aload_n 0, 1, 0, 0, 0) := by decide +kernel
theorem op101_6 : rn_op 101 6 = some (.sipush 448, 3, 0, 0, 0) := by decide +kernel
theorem op101_9 : rn_op 101 9 = some (.putfield 104, 3, 4, 11, 0) := by decide +kernel
theorem op101_12 : rn_op 101 12 = some (.aload_n 0, 1, 0, 0, 0) := by decide +kernel
theorem op101_13 : rn_op 101 13 = some (.invokevirtual 98, 3, 64, 1, 4) := by decide +kernel
theorem op101_16 : rn_op 101 16 = some (.aload_n 0, 1, 0, 0, 0) := by decide +kernel
theorem op101_17 : rn_op 101 17 = some (.aload_n 0, 1, 0, 0, 0) := by decide +kernel
theorem op101_18 : rn_op 101 18 = some (.getfield 104, 3, 4, 11, 0) := by decide +kernel
theorem op101_21 : rn_op 101 21 = some (.sipush 448, 3, 0, 0, 0) := by decide +kernel
theorem op101_24 : rn_op 101 24 = some (.if_icmp .ne 8, 3, 0, 0, 0) := by decide +kernel
theorem op101_27 : rn_op 101 27 = some (.bipush (-4), 2, 0, 0, 0) := by decide +kernel
theorem op101_29 : rn_op 101 29 = some (.goto 10, 3, 0, 0, 0) := by decide +kernel
theorem op101_32 : rn_op 101 32 = some (.aload_n 0, 1, 0, 0, 0) := by decide +kernel
theorem op101_33 : rn_op 101 33 = some (.getfield 104, 3, 4, 11, 0) := by decide +kernel
theorem op101_36 : rn_op 101 36 = some (.bipush 63, 2, 0, 0, 0) := by decide +kernel
theorem op101_38 : rn_op 101 38 = some (.iand, 1, 0, 0, 0) := by decide +kernel
theorem op101_39 : rn_op 101 39 = some (.putfield 107, 3, 4, 17, 0) := by decide +kernel
theorem op101_42 : rn_op 101 42 = some (.return_, 1, 0, 0, 0) := by decide +kernel
def se_findDrops (n : Nat)  (m : rn_Mem) : Option (rn_Mem) :=
  (some (rm_i m 51 10 1)).bind fun (m1 : rn_Mem) =>
  (some (rm_i m1 51 11 448)).bind fun (m2 : rn_Mem) =>
  (se_run n m2).bind fun m3 =>
  (show Option (Int32) from
    if (m3.1 51 11) = 448 then
      some ((-4))
    else
      some ((m3.1 51 11) &&& 63)).bind fun x7 =>
  (some (rm_i m3 51 17 x7)).bind fun (m8 : rn_Mem) =>
  some m8
set_option maxHeartbeats 4000000 in
set_option maxRecDepth 20000 in
theorem se_findDrops_ok (xs : List Int32) {d : Nat} (hd : 39 ≤ d) {n : Nat} {m mO : rn_Mem} (h : se_findDrops n  m = some mO) : rn_R xs d 101 0 (rn_ent 1 [.ref 51]) [] (rn_SH, m) none (rn_SH, mO) := by
  obtain ⟨d, rfl⟩ : ∃ e, d = e + 1 := ⟨d - 1, by omega⟩
  unfold se_findDrops at h
  show rn_R xs (d + 1) 101 0 [some (.ref 51)] [] (rn_SH, m) none (rn_SH, mO)
  refine rx_p (L2 := [some (.ref 51)]) (S2 := [.ref 51]) (pc2 := 1) op101_0 rfl rfl ?_
  refine rx_ic (v := 1) (pc2 := 2) op101_1 (by decide) rfl ?_
  obtain ⟨m1, em1, h⟩ := rq_bv h
  refine rx_pf (m2 := m1) (pc2 := 5) op101_2 sp_51 rfl em1 rfl ?_
  refine rx_p (L2 := [some (.ref 51)]) (S2 := [.ref 51]) (pc2 := 6) op101_5 rfl rfl ?_
  refine rx_sp (v := 448) (pc2 := 9) op101_6 (by decide) rfl ?_
  obtain ⟨m2, em2, h⟩ := rq_bv h
  refine rx_pf (m2 := m2) (pc2 := 12) op101_9 sp_51 rfl em2 rfl ?_
  refine rx_p (L2 := [some (.ref 51)]) (S2 := [.ref 51]) (pc2 := 13) op101_12 rfl rfl ?_
  obtain ⟨m3, f4, h⟩ := rq_bind h
  try dsimp only at h
  refine ry_iv (p := 51) (vs := []) (T := []) (pc2 := 16) op101_13 ms_64 (by decide) rfl rfl (Nat.le_of_ble_eq_true rfl) (Nat.le_of_ble_eq_true rfl) sp_51 (se_run_ok xs (by omega)  f4) rfl ?_
  show rn_R _ _ _ _ _ [] _ _ _
  refine rx_p (L2 := [some (.ref 51)]) (S2 := [.ref 51]) (pc2 := 17) op101_16 rfl rfl ?_
  refine rx_p (L2 := [some (.ref 51)]) (S2 := [.ref 51, .ref 51]) (pc2 := 18) op101_17 rfl rfl ?_
  refine rx_gf (v := .int (m3.1 51 11)) (pc2 := 21) op101_18 sp_51 rfl rfl rfl ?_
  refine rx_sp (v := 448) (pc2 := 24) op101_21 (by decide) rfl ?_
  obtain ⟨x7, gc9, h⟩ := rq_bind h
  try dsimp only at h
  have c9 : ∀ (o6 : Option Value), rn_R xs (d + 1) 101 39 [o6] [.int x7, .ref 51] (rn_SH, m3) none (rn_SH, mO) := by
    intro o6
    obtain ⟨m8, em8, h⟩ := rq_bv h
    refine rx_pf (m2 := m8) (pc2 := 42) op101_39 sp_51 rfl em8 rfl ?_
    obtain rfl := Option.some.inj h
    exact ry_rv op101_42 ms_101 rfl
  refine ry_ic_ne (tgt := 32) (pc2 := 27) op101_24 (by decide) (by decide) rfl (fun b5 => ?_) (fun b5 => ?_)
  · have gc9 := (if_pos b5).symm.trans gc9
    refine rx_bp (v := (-4)) (pc2 := 29) op101_27 (by decide) rfl ?_
    refine ry_go (tgt := 39) op101_29 (by decide) (by decide) ?_
    cases gc9
    exact c9 _
  · have gc9 := (if_neg b5).symm.trans gc9
    refine rx_p (L2 := [some (.ref 51)]) (S2 := [.ref 51, .ref 51]) (pc2 := 33) op101_32 rfl rfl ?_
    refine rx_gf (v := .int (m3.1 51 11)) (pc2 := 36) op101_33 sp_51 rfl rfl rfl ?_
    refine rx_bp (v := 63) (pc2 := 38) op101_36 (by decide) rfl ?_
    refine rx_p (L2 := [some (.ref 51)]) (S2 := [.int ((m3.1 51 11) &&& 63), .ref 51]) (pc2 := 39) op101_38 rfl rfl ?_
    cases gc9
    exact c9 _
/-! lt_drops -/
theorem op100_0 : rn_op 100 0 = some (.aload_n 0, 1, 0, 0, 0) := by decide +kernel
theorem op100_1 : rn_op 100 1 = some (.getfield 19, 3, 10, 1, 3) := by decide +kernel
theorem op100_4 : rn_op 100 4 = some (.getfield 93, 3, 6, 1, 3) := by decide +kernel
theorem op100_7 : rn_op 100 7 = some (.getfield 136, 3, 7, 0, 2) := by decide +kernel
theorem op100_10 : rn_op 100 10 = some (.ifCond .ne 6, 3, 0, 0, 0) := by decide +kernel
theorem op100_13 : rn_op 100 13 = some (.bipush (-2), 2, 0, 0, 0) := by decide +kernel
theorem op100_15 : rn_op 100 15 = some (.ireturn, 1, 0, 0, 0) := by decide +kernel
theorem op100_16 : rn_op 100 16 = some (.aload_n 0, 1, 0, 0, 0) := by decide +kernel
theorem op100_17 : rn_op 100 17 = some (.getfield 81, 3, 10, 8, 0) := by decide +kernel
theorem op100_20 : rn_op 100 20 = some (.iconst 4, 1, 0, 0, 0) := by decide +kernel
theorem op100_21 : rn_op 100 21 = some (.iand, 1, 0, 0, 0) := by decide +kernel
theorem op100_22 : rn_op 100 22 = some (.ifCond .ne 31, 3, 0, 0, 0) := by decide +kernel
theorem op100_25 : rn_op 100 25 = some (.aload_n 0, 1, 0, 0, 0) := by decide +kernel
theorem op100_26 : rn_op 100 26 = some (.getfield 32, 3, 10, 4, 3) := by decide +kernel
theorem op100_29 : rn_op 100 29 = some (.aload_n 0, 1, 0, 0, 0) := by decide +kernel
theorem op100_30 : rn_op 100 30 = some (.getfield 19, 3, 10, 1, 3) := by decide +kernel
theorem op100_33 : rn_op 100 33 = some (.invokevirtual 213, 3, 61, 2, 4) := by decide +kernel
theorem op100_36 : rn_op 100 36 = some (.aload_n 0, 1, 0, 0, 0) := by decide +kernel
theorem op100_37 : rn_op 100 37 = some (.getfield 32, 3, 10, 4, 3) := by decide +kernel
theorem op100_40 : rn_op 100 40 = some (.invokevirtual 223, 3, 101, 1, 4) := by decide +kernel
theorem op100_43 : rn_op 100 43 = some (.aload_n 0, 1, 0, 0, 0) := by decide +kernel
theorem op100_44 : rn_op 100 44 = some (.dup, 1, 0, 0, 0) := by decide +kernel
theorem op100_45 : rn_op 100 45 = some (.getfield 81, 3, 10, 8, 0) := by decide +kernel
theorem op100_48 : rn_op 100 48 = some (.iconst 4, 1, 0, 0, 0) := by decide +kernel
theorem op100_49 : rn_op 100 49 = some (.ior, 1, 0, 0, 0) := by decide +kernel
theorem op100_50 : rn_op 100 50 = some (.putfield 81, 3, 10, 8, 0) := by decide +kernel
theorem op100_53 : rn_op 100 53 = some (.aload_n 0, 1, 0, 0, 0) := by decide +kernel
theorem op100_54 : rn_op 100 54 = some (.getfield 32, 3, 10, 4, 3) := by decide +kernel
theorem op100_57 : rn_op 100 57 = some (.getfield 226, 3, 4, 17, 0) := by decide +kernel
theorem op100_60 : rn_op 100 60 = some (.ireturn, 1, 0, 0, 0) := by decide +kernel
def lt_drops (n : Nat)  (m : rn_Mem) : Option (Int32 × rn_Mem) :=
  if (m.1 5 0) = 0 then
    some ((-2), m)
  else
    if ((m.1 0 8) &&& 4) = 0 then
      (se_take n 3 m).bind fun m3 =>
      (se_findDrops n m3).bind fun m5 =>
      (some (rm_i m5 0 8 ((m5.1 0 8) ||| 4))).bind fun (m7 : rn_Mem) =>
      some (m7.1 51 17, m7)
    else
      some (m.1 51 17, m)
set_option maxHeartbeats 4000000 in
set_option maxRecDepth 20000 in
theorem lt_drops_ok (xs : List Int32) {d : Nat} (hd : 40 ≤ d) {n : Nat} {m mO : rn_Mem} {rO : Int32} (h : lt_drops n  m = some (rO, mO)) : rn_R xs d 100 0 (rn_ent 1 [.ref 0]) [] (rn_SH, m) (some (.int rO)) (rn_SH, mO) := by
  obtain ⟨d, rfl⟩ : ∃ e, d = e + 1 := ⟨d - 1, by omega⟩
  unfold lt_drops at h
  show rn_R xs (d + 1) 100 0 [some (.ref 0)] [] (rn_SH, m) (some (.int rO)) (rn_SH, mO)
  refine rx_p (L2 := [some (.ref 0)]) (S2 := [.ref 0]) (pc2 := 1) op100_0 rfl rfl ?_
  refine rx_gf (v := .ref 3) (pc2 := 4) op100_1 sp_0 rfl rfl rfl ?_
  refine rx_gf (v := .ref 5) (pc2 := 7) op100_4 sp_3 rfl rfl rfl ?_
  refine rx_gf (v := .int (m.1 5 0)) (pc2 := 10) op100_7 sp_5 rfl rfl rfl ?_
  refine ry_if_ne (tgt := 16) (pc2 := 13) op100_10 (by decide) (by decide) rfl (fun b1 => ?_) (fun b1 => ?_)
  · have h := (if_pos b1).symm.trans h
    refine rx_bp (v := (-2)) (pc2 := 15) op100_13 (by decide) rfl ?_
    obtain ⟨rfl, rfl⟩ := rq_ret h
    exact ry_ri op100_15 ms_100 rfl
  · have h := (if_neg b1).symm.trans h
    refine rx_p (L2 := [some (.ref 0)]) (S2 := [.ref 0]) (pc2 := 17) op100_16 rfl rfl ?_
    refine rx_gf (v := .int (m.1 0 8)) (pc2 := 20) op100_17 sp_0 rfl rfl rfl ?_
    refine rx_ic (v := 4) (pc2 := 21) op100_20 (by decide) rfl ?_
    refine rx_p (L2 := [some (.ref 0)]) (S2 := [.int ((m.1 0 8) &&& 4)]) (pc2 := 22) op100_21 rfl rfl ?_
    refine ry_if_ne (tgt := 53) (pc2 := 25) op100_22 (by decide) (by decide) rfl (fun b2 => ?_) (fun b2 => ?_)
    · have h := (if_pos b2).symm.trans h
      refine rx_p (L2 := [some (.ref 0)]) (S2 := [.ref 0]) (pc2 := 26) op100_25 rfl rfl ?_
      refine rx_gf (v := .ref 51) (pc2 := 29) op100_26 sp_0 rfl rfl rfl ?_
      refine rx_p (L2 := [some (.ref 0)]) (S2 := [.ref 0, .ref 51]) (pc2 := 30) op100_29 rfl rfl ?_
      refine rx_gf (v := .ref 3) (pc2 := 33) op100_30 sp_0 rfl rfl rfl ?_
      obtain ⟨m3, f4, h⟩ := rq_bind h
      try dsimp only at h
      refine ry_iv (p := 51) (vs := [.ref 3]) (T := []) (pc2 := 36) op100_33 ms_61 (by decide) rfl rfl (Nat.le_of_ble_eq_true rfl) (Nat.le_of_ble_eq_true rfl) sp_51 (se_take_ok xs (by omega) sa_3 f4) rfl ?_
      show rn_R _ _ _ _ _ [] _ _ _
      refine rx_p (L2 := [some (.ref 0)]) (S2 := [.ref 0]) (pc2 := 37) op100_36 rfl rfl ?_
      refine rx_gf (v := .ref 51) (pc2 := 40) op100_37 sp_0 rfl rfl rfl ?_
      obtain ⟨m5, f6, h⟩ := rq_bind h
      try dsimp only at h
      refine ry_iv (p := 51) (vs := []) (T := []) (pc2 := 43) op100_40 ms_101 (by decide) rfl rfl (Nat.le_of_ble_eq_true rfl) (Nat.le_of_ble_eq_true rfl) sp_51 (se_findDrops_ok xs (by omega)  f6) rfl ?_
      show rn_R _ _ _ _ _ [] _ _ _
      refine rx_p (L2 := [some (.ref 0)]) (S2 := [.ref 0]) (pc2 := 44) op100_43 rfl rfl ?_
      refine rx_p (L2 := [some (.ref 0)]) (S2 := [.ref 0, .ref 0]) (pc2 := 45) op100_44 rfl rfl ?_
      refine rx_gf (v := .int (m5.1 0 8)) (pc2 := 48) op100_45 sp_0 rfl rfl rfl ?_
      refine rx_ic (v := 4) (pc2 := 49) op100_48 (by decide) rfl ?_
      refine rx_p (L2 := [some (.ref 0)]) (S2 := [.int ((m5.1 0 8) ||| 4), .ref 0]) (pc2 := 50) op100_49 rfl rfl ?_
      obtain ⟨m7, em7, h⟩ := rq_bv h
      refine rx_pf (m2 := m7) (pc2 := 53) op100_50 sp_0 rfl em7 rfl ?_
      refine rx_p (L2 := [some (.ref 0)]) (S2 := [.ref 0]) (pc2 := 54) op100_53 rfl rfl ?_
      refine rx_gf (v := .ref 51) (pc2 := 57) op100_54 sp_0 rfl rfl rfl ?_
      refine rx_gf (v := .int (m7.1 51 17)) (pc2 := 60) op100_57 sp_51 rfl rfl rfl ?_
      obtain ⟨rfl, rfl⟩ := rq_ret h
      exact ry_ri op100_60 ms_100 rfl
    · have h := (if_neg b2).symm.trans h
      refine rx_p (L2 := [some (.ref 0)]) (S2 := [.ref 0]) (pc2 := 54) op100_53 rfl rfl ?_
      refine rx_gf (v := .ref 51) (pc2 := 57) op100_54 sp_0 rfl rfl rfl ?_
      refine rx_gf (v := .int (m.1 51 17)) (pc2 := 60) op100_57 sp_51 rfl rfl rfl ?_
      obtain ⟨rfl, rfl⟩ := rq_ret h
      exact ry_ri op100_60 ms_100 rfl
/-! ta_turn -/
theorem op104_0 : rn_op 104 0 = some (.iload_n 2, 1, 0, 0, 0) := by decide +kernel
theorem op104_1 : rn_op 104 1 = some (.bipush 12, 2, 0, 0, 0) := by decide +kernel
theorem op104_3 : rn_op 104 3 = some (.imul, 1, 0, 0, 0) := by decide +kernel
theorem op104_4 : rn_op 104 4 = some (.istore_n 3, 1, 0, 0, 0) := by decide +kernel
theorem op104_5 : rn_op 104 5 = some (.iload_n 3, 1, 0, 0, 0) := by decide +kernel
theorem op104_6 : rn_op 104 6 = some (.aload_n 0, 1, 0, 0, 0) := by decide +kernel
theorem op104_7 : rn_op 104 7 = some (.getfield 15, 3, 7, 2, 3) := by decide +kernel
theorem op104_10 : rn_op 104 10 = some (.iload_n 2, 1, 0, 0, 0) := by decide +kernel
theorem op104_11 : rn_op 104 11 = some (.iaload, 1, 0, 0, 0) := by decide +kernel
theorem op104_12 : rn_op 104 12 = some (.iconst 1, 1, 0, 0, 0) := by decide +kernel
theorem op104_13 : rn_op 104 13 = some (.isub, 1, 0, 0, 0) := by decide +kernel
theorem op104_14 : rn_op 104 14 = some (.iload_n 1, 1, 0, 0, 0) := by decide +kernel
theorem op104_15 : rn_op 104 15 = some (.imul, 1, 0, 0, 0) := by decide +kernel
theorem op104_16 : rn_op 104 16 = some (.iadd, 1, 0, 0, 0) := by decide +kernel
theorem op104_17 : rn_op 104 17 = some (.istore 4, 2, 0, 0, 0) := by decide +kernel
theorem op104_19 : rn_op 104 19 = some (.iconst 0, 1, 0, 0, 0) := by decide +kernel
theorem op104_20 : rn_op 104 20 = some (.istore 5, 2, 0, 0, 0) := by decide +kernel
theorem op104_22 : rn_op 104 22 = some (.iload 5, 2, 0, 0, 0) := by decide +kernel
theorem op104_24 : rn_op 104 24 = some (.iconst 4, 1, 0, 0, 0) := by decide +kernel
theorem op104_25 : rn_op 104 25 = some (.if_icmp .ge 82, 3, 0, 0, 0) := by decide +kernel
theorem op104_28 : rn_op 104 28 = some (.iload_n 3, 1, 0, 0, 0) := by decide +kernel
theorem op104_29 : rn_op 104 29 = some (.iload 4, 2, 0, 0, 0) := by decide +kernel
theorem op104_31 : rn_op 104 31 = some (.if_icmp .ge 76, 3, 0, 0, 0) := by decide +kernel
theorem op104_34 : rn_op 104 34 = some (.iconst 0, 1, 0, 0, 0) := by decide +kernel
theorem op104_35 : rn_op 104 35 = some (.istore 6, 2, 0, 0, 0) := by decide +kernel
theorem op104_37 : rn_op 104 37 = some (.iload 6, 2, 0, 0, 0) := by decide +kernel
theorem op104_39 : rn_op 104 39 = some (.iload_n 1, 1, 0, 0, 0) := by decide +kernel
theorem op104_40 : rn_op 104 40 = some (.if_icmp .ge 51, 3, 0, 0, 0) := by decide +kernel
theorem op104_43 : rn_op 104 43 = some (.aload_n 0, 1, 0, 0, 0) := by decide +kernel
theorem op104_44 : rn_op 104 44 = some (.getfield 18, 3, 7, 3, 3) := by decide +kernel
theorem op104_47 : rn_op 104 47 = some (.iload_n 3, 1, 0, 0, 0) := by decide +kernel
theorem op104_48 : rn_op 104 48 = some (.iload 6, 2, 0, 0, 0) := by decide +kernel
theorem op104_50 : rn_op 104 50 = some (.iadd, 1, 0, 0, 0) := by decide +kernel
theorem op104_51 : rn_op 104 51 = some (.iaload, 1, 0, 0, 0) := by decide +kernel
theorem op104_52 : rn_op 104 52 = some (.istore 7, 2, 0, 0, 0) := by decide +kernel
theorem op104_54 : rn_op 104 54 = some (.aload_n 0, 1, 0, 0, 0) := by decide +kernel
theorem op104_55 : rn_op 104 55 = some (.getfield 18, 3, 7, 3, 3) := by decide +kernel
theorem op104_58 : rn_op 104 58 = some (.iload_n 3, 1, 0, 0, 0) := by decide +kernel
theorem op104_59 : rn_op 104 59 = some (.iload 6, 2, 0, 0, 0) := by decide +kernel
theorem op104_61 : rn_op 104 61 = some (.iadd, 1, 0, 0, 0) := by decide +kernel
theorem op104_62 : rn_op 104 62 = some (.aload_n 0, 1, 0, 0, 0) := by decide +kernel
theorem op104_63 : rn_op 104 63 = some (.getfield 18, 3, 7, 3, 3) := by decide +kernel
theorem op104_66 : rn_op 104 66 = some (.iload 4, 2, 0, 0, 0) := by decide +kernel
theorem op104_68 : rn_op 104 68 = some (.iload 6, 2, 0, 0, 0) := by decide +kernel
theorem op104_70 : rn_op 104 70 = some (.iadd, 1, 0, 0, 0) := by decide +kernel
theorem op104_71 : rn_op 104 71 = some (.iaload, 1, 0, 0, 0) := by decide +kernel
theorem op104_72 : rn_op 104 72 = some (.iastore, 1, 0, 0, 0) := by decide +kernel
theorem op104_73 : rn_op 104 73 = some (.aload_n 0, 1, 0, 0, 0) := by decide +kernel
theorem op104_74 : rn_op 104 74 = some (.getfield 18, 3, 7, 3, 3) := by decide +kernel
theorem op104_77 : rn_op 104 77 = some (.iload 4, 2, 0, 0, 0) := by decide +kernel
theorem op104_79 : rn_op 104 79 = some (.iload 6, 2, 0, 0, 0) := by decide +kernel
theorem op104_81 : rn_op 104 81 = some (.iadd, 1, 0, 0, 0) := by decide +kernel
theorem op104_82 : rn_op 104 82 = some (.iload 7, 2, 0, 0, 0) := by decide +kernel
theorem op104_84 : rn_op 104 84 = some (.iastore, 1, 0, 0, 0) := by decide +kernel
theorem op104_85 : rn_op 104 85 = some (.iinc 6 1, 3, 0, 0, 0) := by decide +kernel
theorem op104_88 : rn_op 104 88 = some (.goto (-51), 3, 0, 0, 0) := by decide +kernel
theorem op104_91 : rn_op 104 91 = some (.iload_n 3, 1, 0, 0, 0) := by decide +kernel
theorem op104_92 : rn_op 104 92 = some (.iload_n 1, 1, 0, 0, 0) := by decide +kernel
theorem op104_93 : rn_op 104 93 = some (.iadd, 1, 0, 0, 0) := by decide +kernel
theorem op104_94 : rn_op 104 94 = some (.istore_n 3, 1, 0, 0, 0) := by decide +kernel
theorem op104_95 : rn_op 104 95 = some (.iload 4, 2, 0, 0, 0) := by decide +kernel
theorem op104_97 : rn_op 104 97 = some (.iload_n 1, 1, 0, 0, 0) := by decide +kernel
theorem op104_98 : rn_op 104 98 = some (.isub, 1, 0, 0, 0) := by decide +kernel
theorem op104_99 : rn_op 104 99 = some (.istore 4, 2, 0, 0, 0) := by decide +kernel
theorem op104_101 : rn_op 104 101 = some (.iinc 5 1, 3, 0, 0, 0) := by decide +kernel
theorem op104_104 : rn_op 104 104 = some (.goto (-82), 3, 0, 0, 0) := by decide +kernel
theorem op104_107 : rn_op 104 107 = some (.return_, 1, 0, 0, 0) := by decide +kernel
def ta_turn_l37 (q0 : Nat) (a1 : Int32) (a3 : Int32) (a4 : Int32) (a5 : Int32) : Nat → Int32 → rn_Mem → Option (rn_Mem)
  | 0, _, _ => none
  | n + 1, a6, m =>
    if a6 < a1 then
      if rn_in (a3 + a6) 48 = true then
        (some (m.1 (q0 + 3) (a3 + a6).toNatClampNeg)).bind fun (x8 : Int32) =>
        if rn_in (a4 + a6) 48 = true then
          if rn_in (a3 + a6) 48 = true then
            (some (rm_i m (q0 + 3) (a3 + a6).toNatClampNeg (m.1 (q0 + 3) (a4 + a6).toNatClampNeg))).bind fun (m10 : rn_Mem) =>
            if rn_in (a4 + a6) 48 = true then
              (some (rm_i m10 (q0 + 3) (a4 + a6).toNatClampNeg x8)).bind fun (m12 : rn_Mem) =>
              (some (a6 + 1)).bind fun (x14 : Int32) =>
              ta_turn_l37 q0 a1 a3 a4 a5 n x14 m12
            else none
          else none
        else none
      else none
    else
      some m
def ta_turn_l22 (q0 : Nat) (a1 : Int32) : Nat → Int32 → Int32 → Int32 → rn_Mem → Option (rn_Mem)
  | 0, _, _, _, _ => none
  | n + 1, a3, a4, a5, m =>
    if a5 < 4 then
      if a3 < a4 then
        (ta_turn_l37 q0 a1 a3 a4 a5 n 0 m).bind fun m15 =>
        (some (a3 + a1)).bind fun (x20 : Int32) =>
        (some (a4 - a1)).bind fun (x21 : Int32) =>
        (some (a5 + 1)).bind fun (x22 : Int32) =>
        ta_turn_l22 q0 a1 n x20 x21 x22 m15
      else
        some m
    else
      some m
def ta_turn (n : Nat) (q0 : Nat) (a1 : Int32) (a2 : Int32) (m : rn_Mem) : Option (rn_Mem) :=
  (some (a2 * 12)).bind fun (x1 : Int32) =>
  if rn_in a2 4 = true then
    (some (x1 + (((m.1 (q0 + 2) a2.toNatClampNeg) - 1) * a1))).bind fun (x3 : Int32) =>
    (ta_turn_l22 q0 a1 n x1 x3 0 m).bind fun m24 =>
    some m24
  else none
set_option maxHeartbeats 4000000 in
set_option maxRecDepth 20000 in
theorem ta_turn_l37_ok (xs : List Int32) {d : Nat} {q0 : Nat} {a1 : Int32} {a3 : Int32} {a4 : Int32} {a5 : Int32} {r : Option Value} {τ : rn_H} {out : rn_Mem} (hr : ∀ (mO : rn_Mem), out = mO → ∀ (o2 o6 o7 : Option Value), rn_R xs d 104 91 [some (.ref q0), some (.int a1), o2, some (.int a3), some (.int a4), some (.int a5), o6, o7] [] (rn_SH, mO) r τ) : ∀ (n : Nat) (a6 : Int32) (o2 o7 : Option Value) (m : rn_Mem), sA_Table q0 → ta_turn_l37 q0 a1 a3 a4 a5 n a6 m = some out → rn_R xs d 104 37 [some (.ref q0), some (.int a1), o2, some (.int a3), some (.int a4), some (.int a5), some (.int a6), o7] [] (rn_SH, m) r τ := by
  intro n
  induction n with
  | zero =>
    intro _ _ _ _ _ h
    cases h
  | succ n ih =>
    intro a6 o2 o7 m hq0 h
    unfold ta_turn_l37 at h
    try dsimp only at h
    refine rx_p (L2 := [some (.ref q0), some (.int a1), o2, some (.int a3), some (.int a4), some (.int a5), some (.int a6), o7]) (S2 := [.int a6]) (pc2 := 39) op104_37 rfl rfl ?_
    refine rx_p (L2 := [some (.ref q0), some (.int a1), o2, some (.int a3), some (.int a4), some (.int a5), some (.int a6), o7]) (S2 := [.int a1, .int a6]) (pc2 := 40) op104_39 rfl rfl ?_
    refine ry_ic_ge (tgt := 91) (pc2 := 43) op104_40 (by decide) (by decide) rfl (fun b6 => ?_) (fun b6 => ?_)
    · have h := (if_pos b6).symm.trans h
      refine rx_p (L2 := [some (.ref q0), some (.int a1), o2, some (.int a3), some (.int a4), some (.int a5), some (.int a6), o7]) (S2 := [.ref q0]) (pc2 := 44) op104_43 rfl rfl ?_
      refine rx_gf (v := .ref (q0 + 3)) (pc2 := 47) op104_44 (hq0.1) rfl rfl rfl ?_
      refine rx_p (L2 := [some (.ref q0), some (.int a1), o2, some (.int a3), some (.int a4), some (.int a5), some (.int a6), o7]) (S2 := [.int a3, .ref (q0 + 3)]) (pc2 := 48) op104_47 rfl rfl ?_
      refine rx_p (L2 := [some (.ref q0), some (.int a1), o2, some (.int a3), some (.int a4), some (.int a5), some (.int a6), o7]) (S2 := [.int a6, .int a3, .ref (q0 + 3)]) (pc2 := 50) op104_48 rfl rfl ?_
      refine rx_p (L2 := [some (.ref q0), some (.int a1), o2, some (.int a3), some (.int a4), some (.int a5), some (.int a6), o7]) (S2 := [.int (a3 + a6), .ref (q0 + 3)]) (pc2 := 51) op104_50 rfl rfl ?_
      obtain ⟨k7, h⟩ := rq_chk h
      refine rx_ia (pc2 := 52) op104_51 (rn_shlt (hq0.2.2.2)) (hq0.2.2.2) k7 rfl rfl ?_
      obtain ⟨x8, ex8, h⟩ := rq_bv h
      refine rx_s (v := x8) (L2 := [some (.ref q0), some (.int a1), o2, some (.int a3), some (.int a4), some (.int a5), some (.int a6), some (.int x8)]) (pc2 := 54) op104_52 ex8 rfl rfl ?_
      refine rx_p (L2 := [some (.ref q0), some (.int a1), o2, some (.int a3), some (.int a4), some (.int a5), some (.int a6), some (.int x8)]) (S2 := [.ref q0]) (pc2 := 55) op104_54 rfl rfl ?_
      refine rx_gf (v := .ref (q0 + 3)) (pc2 := 58) op104_55 (hq0.1) rfl rfl rfl ?_
      refine rx_p (L2 := [some (.ref q0), some (.int a1), o2, some (.int a3), some (.int a4), some (.int a5), some (.int a6), some (.int x8)]) (S2 := [.int a3, .ref (q0 + 3)]) (pc2 := 59) op104_58 rfl rfl ?_
      refine rx_p (L2 := [some (.ref q0), some (.int a1), o2, some (.int a3), some (.int a4), some (.int a5), some (.int a6), some (.int x8)]) (S2 := [.int a6, .int a3, .ref (q0 + 3)]) (pc2 := 61) op104_59 rfl rfl ?_
      refine rx_p (L2 := [some (.ref q0), some (.int a1), o2, some (.int a3), some (.int a4), some (.int a5), some (.int a6), some (.int x8)]) (S2 := [.int (a3 + a6), .ref (q0 + 3)]) (pc2 := 62) op104_61 rfl rfl ?_
      refine rx_p (L2 := [some (.ref q0), some (.int a1), o2, some (.int a3), some (.int a4), some (.int a5), some (.int a6), some (.int x8)]) (S2 := [.ref q0, .int (a3 + a6), .ref (q0 + 3)]) (pc2 := 63) op104_62 rfl rfl ?_
      refine rx_gf (v := .ref (q0 + 3)) (pc2 := 66) op104_63 (hq0.1) rfl rfl rfl ?_
      refine rx_p (L2 := [some (.ref q0), some (.int a1), o2, some (.int a3), some (.int a4), some (.int a5), some (.int a6), some (.int x8)]) (S2 := [.int a4, .ref (q0 + 3), .int (a3 + a6), .ref (q0 + 3)]) (pc2 := 68) op104_66 rfl rfl ?_
      refine rx_p (L2 := [some (.ref q0), some (.int a1), o2, some (.int a3), some (.int a4), some (.int a5), some (.int a6), some (.int x8)]) (S2 := [.int a6, .int a4, .ref (q0 + 3), .int (a3 + a6), .ref (q0 + 3)]) (pc2 := 70) op104_68 rfl rfl ?_
      refine rx_p (L2 := [some (.ref q0), some (.int a1), o2, some (.int a3), some (.int a4), some (.int a5), some (.int a6), some (.int x8)]) (S2 := [.int (a4 + a6), .ref (q0 + 3), .int (a3 + a6), .ref (q0 + 3)]) (pc2 := 71) op104_70 rfl rfl ?_
      obtain ⟨k9, h⟩ := rq_chk h
      refine rx_ia (pc2 := 72) op104_71 (rn_shlt (hq0.2.2.2)) (hq0.2.2.2) k9 rfl rfl ?_
      obtain ⟨k11, h⟩ := rq_chk h
      obtain ⟨m10, em10, h⟩ := rq_bv h
      refine rx_is (m2 := m10) (pc2 := 73) op104_72 (hq0.2.2.2) k11 rfl em10 rfl ?_
      refine rx_p (L2 := [some (.ref q0), some (.int a1), o2, some (.int a3), some (.int a4), some (.int a5), some (.int a6), some (.int x8)]) (S2 := [.ref q0]) (pc2 := 74) op104_73 rfl rfl ?_
      refine rx_gf (v := .ref (q0 + 3)) (pc2 := 77) op104_74 (hq0.1) rfl rfl rfl ?_
      refine rx_p (L2 := [some (.ref q0), some (.int a1), o2, some (.int a3), some (.int a4), some (.int a5), some (.int a6), some (.int x8)]) (S2 := [.int a4, .ref (q0 + 3)]) (pc2 := 79) op104_77 rfl rfl ?_
      refine rx_p (L2 := [some (.ref q0), some (.int a1), o2, some (.int a3), some (.int a4), some (.int a5), some (.int a6), some (.int x8)]) (S2 := [.int a6, .int a4, .ref (q0 + 3)]) (pc2 := 81) op104_79 rfl rfl ?_
      refine rx_p (L2 := [some (.ref q0), some (.int a1), o2, some (.int a3), some (.int a4), some (.int a5), some (.int a6), some (.int x8)]) (S2 := [.int (a4 + a6), .ref (q0 + 3)]) (pc2 := 82) op104_81 rfl rfl ?_
      refine rx_p (L2 := [some (.ref q0), some (.int a1), o2, some (.int a3), some (.int a4), some (.int a5), some (.int a6), some (.int x8)]) (S2 := [.int x8, .int (a4 + a6), .ref (q0 + 3)]) (pc2 := 84) op104_82 rfl rfl ?_
      obtain ⟨k13, h⟩ := rq_chk h
      obtain ⟨m12, em12, h⟩ := rq_bv h
      refine rx_is (m2 := m12) (pc2 := 85) op104_84 (hq0.2.2.2) k13 rfl em12 rfl ?_
      obtain ⟨x14, ex14, h⟩ := rq_bv h
      refine rx_inc (w := 1) (v := x14) (L2 := [some (.ref q0), some (.int a1), o2, some (.int a3), some (.int a4), some (.int a5), some (.int x14), some (.int x8)]) (pc2 := 88) op104_85 rfl (by decide) ex14 rfl rfl ?_
      refine ry_go (tgt := 37) op104_88 (by decide) (by decide) ?_
      exact ih _ _ _ _ hq0 h
    · have h := (if_neg b6).symm.trans h
      cases h
      exact hr _ rfl _ _ _
set_option maxHeartbeats 4000000 in
set_option maxRecDepth 20000 in
theorem ta_turn_l22_ok (xs : List Int32) {d : Nat} {q0 : Nat} {a1 : Int32} {r : Option Value} {τ : rn_H} {out : rn_Mem} (hr : ∀ (mO : rn_Mem), out = mO → ∀ (o0 o1 o2 o3 o4 o5 o6 o7 : Option Value), rn_R xs d 104 107 [o0, o1, o2, o3, o4, o5, o6, o7] [] (rn_SH, mO) r τ) : ∀ (n : Nat) (a3 : Int32) (a4 : Int32) (a5 : Int32) (o2 o6 o7 : Option Value) (m : rn_Mem), sA_Table q0 → ta_turn_l22 q0 a1 n a3 a4 a5 m = some out → rn_R xs d 104 22 [some (.ref q0), some (.int a1), o2, some (.int a3), some (.int a4), some (.int a5), o6, o7] [] (rn_SH, m) r τ := by
  intro n
  induction n with
  | zero =>
    intro _ _ _ _ _ _ _ _ h
    cases h
  | succ n ih =>
    intro a3 a4 a5 o2 o6 o7 m hq0 h
    unfold ta_turn_l22 at h
    try dsimp only at h
    refine rx_p (L2 := [some (.ref q0), some (.int a1), o2, some (.int a3), some (.int a4), some (.int a5), o6, o7]) (S2 := [.int a5]) (pc2 := 24) op104_22 rfl rfl ?_
    refine rx_ic (v := 4) (pc2 := 25) op104_24 (by decide) rfl ?_
    refine ry_ic_ge (tgt := 107) (pc2 := 28) op104_25 (by decide) (by decide) rfl (fun b4 => ?_) (fun b4 => ?_)
    · have h := (if_pos b4).symm.trans h
      refine rx_p (L2 := [some (.ref q0), some (.int a1), o2, some (.int a3), some (.int a4), some (.int a5), o6, o7]) (S2 := [.int a3]) (pc2 := 29) op104_28 rfl rfl ?_
      refine rx_p (L2 := [some (.ref q0), some (.int a1), o2, some (.int a3), some (.int a4), some (.int a5), o6, o7]) (S2 := [.int a4, .int a3]) (pc2 := 31) op104_29 rfl rfl ?_
      refine ry_ic_ge (tgt := 107) (pc2 := 34) op104_31 (by decide) (by decide) rfl (fun b5 => ?_) (fun b5 => ?_)
      · have h := (if_pos b5).symm.trans h
        refine rx_ic (v := 0) (pc2 := 35) op104_34 (by decide) rfl ?_
        refine rx_s (L2 := [some (.ref q0), some (.int a1), o2, some (.int a3), some (.int a4), some (.int a5), some (.int 0), o7]) (pc2 := 37) op104_35 rfl rfl rfl ?_
        obtain ⟨m15, f23, h⟩ := rq_bind h
        refine ta_turn_l37_ok xs (fun m0 eq => ?_) _ _ _ _ _ hq0 f23
        subst eq
        try dsimp only at h
        intro o16 o17 o18
        refine rx_p (L2 := [some (.ref q0), some (.int a1), o16, some (.int a3), some (.int a4), some (.int a5), o17, o18]) (S2 := [.int a3]) (pc2 := 92) op104_91 rfl rfl ?_
        refine rx_p (L2 := [some (.ref q0), some (.int a1), o16, some (.int a3), some (.int a4), some (.int a5), o17, o18]) (S2 := [.int a1, .int a3]) (pc2 := 93) op104_92 rfl rfl ?_
        refine rx_p (L2 := [some (.ref q0), some (.int a1), o16, some (.int a3), some (.int a4), some (.int a5), o17, o18]) (S2 := [.int (a3 + a1)]) (pc2 := 94) op104_93 rfl rfl ?_
        obtain ⟨x20, ex20, h⟩ := rq_bv h
        refine rx_sd (v := x20) (j := 2) (pc2 := 95) op104_94 rfl ex20 (Nat.le_of_ble_eq_true rfl) rfl (fun o19 => ?_)
        show rn_R _ _ _ _ [some (.ref q0), some (.int a1), o19, some (.int x20), some (.int a4), some (.int a5), o17, o18] _ _ _ _
        refine rx_p (L2 := [some (.ref q0), some (.int a1), o19, some (.int x20), some (.int a4), some (.int a5), o17, o18]) (S2 := [.int a4]) (pc2 := 97) op104_95 rfl rfl ?_
        refine rx_p (L2 := [some (.ref q0), some (.int a1), o19, some (.int x20), some (.int a4), some (.int a5), o17, o18]) (S2 := [.int a1, .int a4]) (pc2 := 98) op104_97 rfl rfl ?_
        refine rx_p (L2 := [some (.ref q0), some (.int a1), o19, some (.int x20), some (.int a4), some (.int a5), o17, o18]) (S2 := [.int (a4 - a1)]) (pc2 := 99) op104_98 rfl rfl ?_
        obtain ⟨x21, ex21, h⟩ := rq_bv h
        refine rx_s (v := x21) (L2 := [some (.ref q0), some (.int a1), o19, some (.int x20), some (.int x21), some (.int a5), o17, o18]) (pc2 := 101) op104_99 ex21 rfl rfl ?_
        obtain ⟨x22, ex22, h⟩ := rq_bv h
        refine rx_inc (w := 1) (v := x22) (L2 := [some (.ref q0), some (.int a1), o19, some (.int x20), some (.int x21), some (.int x22), o17, o18]) (pc2 := 104) op104_101 rfl (by decide) ex22 rfl rfl ?_
        refine ry_go (tgt := 22) op104_104 (by decide) (by decide) ?_
        exact ih _ _ _ _ _ _ _ hq0 h
      · have h := (if_neg b5).symm.trans h
        cases h
        exact hr _ rfl _ _ _ _ _ _ _ _
    · have h := (if_neg b4).symm.trans h
      cases h
      exact hr _ rfl _ _ _ _ _ _ _ _
set_option maxHeartbeats 4000000 in
set_option maxRecDepth 20000 in
theorem ta_turn_ok (xs : List Int32) {d : Nat} (hd : 0 ≤ d) {n : Nat} {q0 : Nat} {a1 : Int32} {a2 : Int32} {m mO : rn_Mem} (hq0 : sA_Table q0) (h : ta_turn n q0 a1 a2 m = some mO) : rn_R xs d 104 0 (rn_ent 8 [.ref q0, .int a1, .int a2]) [] (rn_SH, m) none (rn_SH, mO) := by
  unfold ta_turn at h
  show rn_R xs d 104 0 [some (.ref q0), some (.int a1), some (.int a2), none, none, none, none, none] [] (rn_SH, m) none (rn_SH, mO)
  refine rx_p (L2 := [some (.ref q0), some (.int a1), some (.int a2), none, none, none, none, none]) (S2 := [.int a2]) (pc2 := 1) op104_0 rfl rfl ?_
  refine rx_bp (v := 12) (pc2 := 3) op104_1 (by decide) rfl ?_
  refine rx_p (L2 := [some (.ref q0), some (.int a1), some (.int a2), none, none, none, none, none]) (S2 := [.int (a2 * 12)]) (pc2 := 4) op104_3 rfl rfl ?_
  obtain ⟨x1, ex1, h⟩ := rq_bv h
  refine rx_s (v := x1) (L2 := [some (.ref q0), some (.int a1), some (.int a2), some (.int x1), none, none, none, none]) (pc2 := 5) op104_4 ex1 rfl rfl ?_
  refine rx_p (L2 := [some (.ref q0), some (.int a1), some (.int a2), some (.int x1), none, none, none, none]) (S2 := [.int x1]) (pc2 := 6) op104_5 rfl rfl ?_
  refine rx_p (L2 := [some (.ref q0), some (.int a1), some (.int a2), some (.int x1), none, none, none, none]) (S2 := [.ref q0, .int x1]) (pc2 := 7) op104_6 rfl rfl ?_
  refine rx_gf (v := .ref (q0 + 2)) (pc2 := 10) op104_7 (hq0.1) rfl rfl rfl ?_
  refine rx_p (L2 := [some (.ref q0), some (.int a1), some (.int a2), some (.int x1), none, none, none, none]) (S2 := [.int a2, .ref (q0 + 2), .int x1]) (pc2 := 11) op104_10 rfl rfl ?_
  obtain ⟨k2, h⟩ := rq_chk h
  refine rx_ia (pc2 := 12) op104_11 (rn_shlt (hq0.2.2.1)) (hq0.2.2.1) k2 rfl rfl ?_
  refine rx_ic (v := 1) (pc2 := 13) op104_12 (by decide) rfl ?_
  refine rx_p (L2 := [some (.ref q0), some (.int a1), some (.int a2), some (.int x1), none, none, none, none]) (S2 := [.int ((m.1 (q0 + 2) a2.toNatClampNeg) - 1), .int x1]) (pc2 := 14) op104_13 rfl rfl ?_
  refine rx_p (L2 := [some (.ref q0), some (.int a1), some (.int a2), some (.int x1), none, none, none, none]) (S2 := [.int a1, .int ((m.1 (q0 + 2) a2.toNatClampNeg) - 1), .int x1]) (pc2 := 15) op104_14 rfl rfl ?_
  refine rx_p (L2 := [some (.ref q0), some (.int a1), some (.int a2), some (.int x1), none, none, none, none]) (S2 := [.int (((m.1 (q0 + 2) a2.toNatClampNeg) - 1) * a1), .int x1]) (pc2 := 16) op104_15 rfl rfl ?_
  refine rx_p (L2 := [some (.ref q0), some (.int a1), some (.int a2), some (.int x1), none, none, none, none]) (S2 := [.int (x1 + (((m.1 (q0 + 2) a2.toNatClampNeg) - 1) * a1))]) (pc2 := 17) op104_16 rfl rfl ?_
  obtain ⟨x3, ex3, h⟩ := rq_bv h
  refine rx_s (v := x3) (L2 := [some (.ref q0), some (.int a1), some (.int a2), some (.int x1), some (.int x3), none, none, none]) (pc2 := 19) op104_17 ex3 rfl rfl ?_
  refine rx_ic (v := 0) (pc2 := 20) op104_19 (by decide) rfl ?_
  refine rx_s (L2 := [some (.ref q0), some (.int a1), some (.int a2), some (.int x1), some (.int x3), some (.int 0), none, none]) (pc2 := 22) op104_20 rfl rfl rfl ?_
  obtain ⟨m24, f33, h⟩ := rq_bind h
  refine ta_turn_l22_ok xs (fun m0 eq => ?_) _ _ _ _ _ _ _ _ hq0 f33
  subst eq
  try dsimp only at h
  intro o25 o26 o27 o28 o29 o30 o31 o32
  obtain rfl := Option.some.inj h
  exact ry_rv op104_107 ms_104 rfl
/-! se_findsOne -/
theorem op105_0 : rn_op 105 0 = some (.aload_n 0, 1, 0, 0, 0) := by decide +kernel
theorem op105_1 : rn_op 105 1 = some (.iconst 1, 1, 0, 0, 0) := by decide +kernel
theorem op105_2 : rn_op 105 2 = some (.putfield 76, 3, 4, 10, 0) := by decide +kernel
theorem op105_5 : rn_op 105 5 = some (.aload_n 0, 1, 0, 0, 0) := by decide +kernel
theorem op105_6 : rn_op 105 6 = some (.iconst 1, 1, 0, 0, 0) := by decide +kernel
theorem op105_7 : rn_op 105 7 = some (.putfield 104, 3, 4, 11, 0) := by decide +kernel
theorem op105_10 : rn_op 105 10 = some (.aload_n 0, 1, 0, 0, 0) := by decide +kernel
theorem op105_11 : rn_op 105 11 = some (.invokevirtual 98, 3, 64, 1, 4) := by decide +kernel
theorem op105_14 : rn_op 105 14 = some (.aload_n 0, 1, 0, 0, 0) := by decide +kernel
theorem op105_15 : rn_op 105 15 = some (.getfield 104, 3, 4, 11, 0) := by decide +kernel
theorem op105_18 : rn_op 105 18 = some (.ifCond .ne 7, 3, 0, 0, 0) := by decide +kernel
theorem op105_21 : rn_op 105 21 = some (.iconst 1, 1, 0, 0, 0) := by decide +kernel
theorem op105_22 : rn_op 105 22 = some (.goto 4, 3, 0, 0, 0) := by decide +kernel
theorem op105_25 : rn_op 105 25 = some (.iconst 0, 1, 0, 0, 0) := by decide +kernel
theorem op105_26 : rn_op 105 26 = some (.ireturn, 1, 0, 0, 0) := by decide +kernel
def se_findsOne (n : Nat)  (m : rn_Mem) : Option (Int32 × rn_Mem) :=
  (some (rm_i m 51 10 1)).bind fun (m1 : rn_Mem) =>
  (some (rm_i m1 51 11 1)).bind fun (m2 : rn_Mem) =>
  (se_run n m2).bind fun m3 =>
  if (m3.1 51 11) = 0 then
    some (1, m3)
  else
    some (0, m3)
set_option maxHeartbeats 4000000 in
set_option maxRecDepth 20000 in
theorem se_findsOne_ok (xs : List Int32) {d : Nat} (hd : 39 ≤ d) {n : Nat} {m mO : rn_Mem} {rO : Int32} (h : se_findsOne n  m = some (rO, mO)) : rn_R xs d 105 0 (rn_ent 1 [.ref 51]) [] (rn_SH, m) (some (.int rO)) (rn_SH, mO) := by
  obtain ⟨d, rfl⟩ : ∃ e, d = e + 1 := ⟨d - 1, by omega⟩
  unfold se_findsOne at h
  show rn_R xs (d + 1) 105 0 [some (.ref 51)] [] (rn_SH, m) (some (.int rO)) (rn_SH, mO)
  refine rx_p (L2 := [some (.ref 51)]) (S2 := [.ref 51]) (pc2 := 1) op105_0 rfl rfl ?_
  refine rx_ic (v := 1) (pc2 := 2) op105_1 (by decide) rfl ?_
  obtain ⟨m1, em1, h⟩ := rq_bv h
  refine rx_pf (m2 := m1) (pc2 := 5) op105_2 sp_51 rfl em1 rfl ?_
  refine rx_p (L2 := [some (.ref 51)]) (S2 := [.ref 51]) (pc2 := 6) op105_5 rfl rfl ?_
  refine rx_ic (v := 1) (pc2 := 7) op105_6 (by decide) rfl ?_
  obtain ⟨m2, em2, h⟩ := rq_bv h
  refine rx_pf (m2 := m2) (pc2 := 10) op105_7 sp_51 rfl em2 rfl ?_
  refine rx_p (L2 := [some (.ref 51)]) (S2 := [.ref 51]) (pc2 := 11) op105_10 rfl rfl ?_
  obtain ⟨m3, f4, h⟩ := rq_bind h
  try dsimp only at h
  refine ry_iv (p := 51) (vs := []) (T := []) (pc2 := 14) op105_11 ms_64 (by decide) rfl rfl (Nat.le_of_ble_eq_true rfl) (Nat.le_of_ble_eq_true rfl) sp_51 (se_run_ok xs (by omega)  f4) rfl ?_
  show rn_R _ _ _ _ _ [] _ _ _
  refine rx_p (L2 := [some (.ref 51)]) (S2 := [.ref 51]) (pc2 := 15) op105_14 rfl rfl ?_
  refine rx_gf (v := .int (m3.1 51 11)) (pc2 := 18) op105_15 sp_51 rfl rfl rfl ?_
  refine ry_if_ne (tgt := 25) (pc2 := 21) op105_18 (by decide) (by decide) rfl (fun b5 => ?_) (fun b5 => ?_)
  · have h := (if_pos b5).symm.trans h
    refine rx_ic (v := 1) (pc2 := 22) op105_21 (by decide) rfl ?_
    refine ry_go (tgt := 26) op105_22 (by decide) (by decide) ?_
    obtain ⟨rfl, rfl⟩ := rq_ret h
    exact ry_rz (x := 1) op105_26 ms_105 rfl (by decide)
  · have h := (if_neg b5).symm.trans h
    refine rx_ic (v := 0) (pc2 := 26) op105_25 (by decide) rfl ?_
    obtain ⟨rfl, rfl⟩ := rq_ret h
    exact ry_rz (x := 0) op105_26 ms_105 rfl (by decide)
/-! lt_findTurned -/
theorem op103_0 : rn_op 103 0 = some (.iconst 0, 1, 0, 0, 0) := by decide +kernel
theorem op103_1 : rn_op 103 1 = some (.istore_n 1, 1, 0, 0, 0) := by decide +kernel
theorem op103_2 : rn_op 103 2 = some (.iconst 0, 1, 0, 0, 0) := by decide +kernel
theorem op103_3 : rn_op 103 3 = some (.istore_n 2, 1, 0, 0, 0) := by decide +kernel
theorem op103_4 : rn_op 103 4 = some (.iload_n 2, 1, 0, 0, 0) := by decide +kernel
theorem op103_5 : rn_op 103 5 = some (.aload_n 0, 1, 0, 0, 0) := by decide +kernel
theorem op103_6 : rn_op 103 6 = some (.getfield 19, 3, 10, 1, 3) := by decide +kernel
theorem op103_9 : rn_op 103 9 = some (.getfield 62, 3, 6, 0, 3) := by decide +kernel
theorem op103_12 : rn_op 103 12 = some (.getfield 118, 3, 1, 1, 0) := by decide +kernel
theorem op103_15 : rn_op 103 15 = some (.if_icmp .ge 57, 3, 0, 0, 0) := by decide +kernel
theorem op103_18 : rn_op 103 18 = some (.aload_n 0, 1, 0, 0, 0) := by decide +kernel
theorem op103_19 : rn_op 103 19 = some (.getfield 32, 3, 10, 4, 3) := by decide +kernel
theorem op103_22 : rn_op 103 22 = some (.aload_n 0, 1, 0, 0, 0) := by decide +kernel
theorem op103_23 : rn_op 103 23 = some (.getfield 19, 3, 10, 1, 3) := by decide +kernel
theorem op103_26 : rn_op 103 26 = some (.invokevirtual 213, 3, 61, 2, 4) := by decide +kernel
theorem op103_29 : rn_op 103 29 = some (.aload_n 0, 1, 0, 0, 0) := by decide +kernel
theorem op103_30 : rn_op 103 30 = some (.getfield 32, 3, 10, 4, 3) := by decide +kernel
theorem op103_33 : rn_op 103 33 = some (.getfield 314, 3, 4, 1, 3) := by decide +kernel
theorem op103_36 : rn_op 103 36 = some (.aload_n 0, 1, 0, 0, 0) := by decide +kernel
theorem op103_37 : rn_op 103 37 = some (.getfield 19, 3, 10, 1, 3) := by decide +kernel
theorem op103_40 : rn_op 103 40 = some (.getfield 62, 3, 6, 0, 3) := by decide +kernel
theorem op103_43 : rn_op 103 43 = some (.getfield 118, 3, 1, 1, 0) := by decide +kernel
theorem op103_46 : rn_op 103 46 = some (.iload_n 2, 1, 0, 0, 0) := by decide +kernel
theorem op103_47 : rn_op 103 47 = some (.invokevirtual 315, 3, 104, 3, 7) := by decide +kernel
theorem op103_50 : rn_op 103 50 = some (.aload_n 0, 1, 0, 0, 0) := by decide +kernel
theorem op103_51 : rn_op 103 51 = some (.getfield 32, 3, 10, 4, 3) := by decide +kernel
theorem op103_54 : rn_op 103 54 = some (.invokevirtual 318, 3, 105, 1, 4) := by decide +kernel
theorem op103_57 : rn_op 103 57 = some (.ifCond .eq 9, 3, 0, 0, 0) := by decide +kernel
theorem op103_60 : rn_op 103 60 = some (.iload_n 1, 1, 0, 0, 0) := by decide +kernel
theorem op103_61 : rn_op 103 61 = some (.iconst 1, 1, 0, 0, 0) := by decide +kernel
theorem op103_62 : rn_op 103 62 = some (.iload_n 2, 1, 0, 0, 0) := by decide +kernel
theorem op103_63 : rn_op 103 63 = some (.ishl, 1, 0, 0, 0) := by decide +kernel
theorem op103_64 : rn_op 103 64 = some (.ior, 1, 0, 0, 0) := by decide +kernel
theorem op103_65 : rn_op 103 65 = some (.istore_n 1, 1, 0, 0, 0) := by decide +kernel
theorem op103_66 : rn_op 103 66 = some (.iinc 2 1, 3, 0, 0, 0) := by decide +kernel
theorem op103_69 : rn_op 103 69 = some (.goto (-65), 3, 0, 0, 0) := by decide +kernel
theorem op103_72 : rn_op 103 72 = some (.iload_n 1, 1, 0, 0, 0) := by decide +kernel
theorem op103_73 : rn_op 103 73 = some (.ireturn, 1, 0, 0, 0) := by decide +kernel
def lt_findTurned_l4  : Nat → Int32 → Int32 → rn_Mem → Option (Int32 × rn_Mem)
  | 0, _, _, _ => none
  | n + 1, a1, a2, m =>
    if a2 < (m.1 4 1) then
      (se_take n 3 m).bind fun m2 =>
      (ta_turn n 53 (m2.1 4 1) a2 m2).bind fun m4 =>
      (se_findsOne n m4).bind fun (r7, m6) =>
      (show Option (Int32) from
        if r7 = 0 then
          some (a1)
        else
          (some (a1 ||| ((1 : Int32) <<< (a2 &&& 31)))).bind fun (x10 : Int32) =>
          some (x10)).bind fun x11 =>
      (some (a2 + 1)).bind fun (x12 : Int32) =>
      lt_findTurned_l4 n x11 x12 m6
    else
      some (a1, m)
def lt_findTurned (n : Nat)  (m : rn_Mem) : Option (Int32 × rn_Mem) :=
  (lt_findTurned_l4 n 0 0 m).bind fun (x16, m14) =>
  some (x16, m14)
set_option maxHeartbeats 4000000 in
set_option maxRecDepth 20000 in
theorem lt_findTurned_l4_ok (xs : List Int32) {d : Nat} (hd : 40 ≤ d + 1) {r : Option Value} {τ : rn_H} {out : Int32 × rn_Mem} (hr : ∀ (z1 : Int32) (mO : rn_Mem), out = (z1, mO) → ∀ (o0 o2 : Option Value), rn_R xs (d + 1) 103 72 [o0, some (.int z1), o2] [] (rn_SH, mO) r τ) : ∀ (n : Nat) (a1 : Int32) (a2 : Int32) (m : rn_Mem), lt_findTurned_l4 n a1 a2 m = some out → rn_R xs (d + 1) 103 4 [some (.ref 0), some (.int a1), some (.int a2)] [] (rn_SH, m) r τ := by
  intro n
  induction n with
  | zero =>
    intro _ _ _ h
    cases h
  | succ n ih =>
    intro a1 a2 m h
    unfold lt_findTurned_l4 at h
    try dsimp only at h
    refine rx_p (L2 := [some (.ref 0), some (.int a1), some (.int a2)]) (S2 := [.int a2]) (pc2 := 5) op103_4 rfl rfl ?_
    refine rx_p (L2 := [some (.ref 0), some (.int a1), some (.int a2)]) (S2 := [.ref 0, .int a2]) (pc2 := 6) op103_5 rfl rfl ?_
    refine rx_gf (v := .ref 3) (pc2 := 9) op103_6 sp_0 rfl rfl rfl ?_
    refine rx_gf (v := .ref 4) (pc2 := 12) op103_9 sp_3 rfl rfl rfl ?_
    refine rx_gf (v := .int (m.1 4 1)) (pc2 := 15) op103_12 sp_4 rfl rfl rfl ?_
    refine ry_ic_ge (tgt := 72) (pc2 := 18) op103_15 (by decide) (by decide) rfl (fun b1 => ?_) (fun b1 => ?_)
    · have h := (if_pos b1).symm.trans h
      refine rx_p (L2 := [some (.ref 0), some (.int a1), some (.int a2)]) (S2 := [.ref 0]) (pc2 := 19) op103_18 rfl rfl ?_
      refine rx_gf (v := .ref 51) (pc2 := 22) op103_19 sp_0 rfl rfl rfl ?_
      refine rx_p (L2 := [some (.ref 0), some (.int a1), some (.int a2)]) (S2 := [.ref 0, .ref 51]) (pc2 := 23) op103_22 rfl rfl ?_
      refine rx_gf (v := .ref 3) (pc2 := 26) op103_23 sp_0 rfl rfl rfl ?_
      obtain ⟨m2, f3, h⟩ := rq_bind h
      try dsimp only at h
      refine ry_iv (p := 51) (vs := [.ref 3]) (T := []) (pc2 := 29) op103_26 ms_61 (by decide) rfl rfl (Nat.le_of_ble_eq_true rfl) (Nat.le_of_ble_eq_true rfl) sp_51 (se_take_ok xs (by omega) sa_3 f3) rfl ?_
      show rn_R _ _ _ _ _ [] _ _ _
      refine rx_p (L2 := [some (.ref 0), some (.int a1), some (.int a2)]) (S2 := [.ref 0]) (pc2 := 30) op103_29 rfl rfl ?_
      refine rx_gf (v := .ref 51) (pc2 := 33) op103_30 sp_0 rfl rfl rfl ?_
      refine rx_gf (v := .ref 53) (pc2 := 36) op103_33 sp_51 rfl rfl rfl ?_
      refine rx_p (L2 := [some (.ref 0), some (.int a1), some (.int a2)]) (S2 := [.ref 0, .ref 53]) (pc2 := 37) op103_36 rfl rfl ?_
      refine rx_gf (v := .ref 3) (pc2 := 40) op103_37 sp_0 rfl rfl rfl ?_
      refine rx_gf (v := .ref 4) (pc2 := 43) op103_40 sp_3 rfl rfl rfl ?_
      refine rx_gf (v := .int (m2.1 4 1)) (pc2 := 46) op103_43 sp_4 rfl rfl rfl ?_
      refine rx_p (L2 := [some (.ref 0), some (.int a1), some (.int a2)]) (S2 := [.int a2, .int (m2.1 4 1), .ref 53]) (pc2 := 47) op103_46 rfl rfl ?_
      obtain ⟨m4, f5, h⟩ := rq_bind h
      try dsimp only at h
      refine ry_iv (p := 53) (vs := [.int (m2.1 4 1), .int a2]) (T := []) (pc2 := 50) op103_47 ms_104 (by decide) rfl rfl (Nat.le_of_ble_eq_true rfl) (Nat.le_of_ble_eq_true rfl) sp_53 (ta_turn_ok xs (by omega) sa_53 f5) rfl ?_
      show rn_R _ _ _ _ _ [] _ _ _
      refine rx_p (L2 := [some (.ref 0), some (.int a1), some (.int a2)]) (S2 := [.ref 0]) (pc2 := 51) op103_50 rfl rfl ?_
      refine rx_gf (v := .ref 51) (pc2 := 54) op103_51 sp_0 rfl rfl rfl ?_
      obtain ⟨⟨r7, m6⟩, f8, h⟩ := rq_bind h
      try dsimp only at h
      refine ry_iv (p := 51) (vs := []) (T := []) (pc2 := 57) op103_54 ms_105 (by decide) rfl rfl (Nat.le_of_ble_eq_true rfl) (Nat.le_of_ble_eq_true rfl) sp_51 (se_findsOne_ok xs (by omega)  f8) rfl ?_
      show rn_R _ _ _ _ _ [.int r7] _ _ _
      obtain ⟨x11, gc13, h⟩ := rq_bind h
      try dsimp only at h
      have c13 : ∀ (_ : Unit), rn_R xs (d + 1) 103 66 [some (.ref 0), some (.int x11), some (.int a2)] [] (rn_SH, m6) r τ := by
        intro _
        obtain ⟨x12, ex12, h⟩ := rq_bv h
        refine rx_inc (w := 1) (v := x12) (L2 := [some (.ref 0), some (.int x11), some (.int x12)]) (pc2 := 69) op103_66 rfl (by decide) ex12 rfl rfl ?_
        refine ry_go (tgt := 4) op103_69 (by decide) (by decide) ?_
        exact ih _ _ _ h
      refine ry_if_eq (tgt := 66) (pc2 := 60) op103_57 (by decide) (by decide) rfl (fun b9 => ?_) (fun b9 => ?_)
      · have gc13 := (if_pos b9).symm.trans gc13
        cases gc13
        exact c13 ()
      · have gc13 := (if_neg b9).symm.trans gc13
        refine rx_p (L2 := [some (.ref 0), some (.int a1), some (.int a2)]) (S2 := [.int a1]) (pc2 := 61) op103_60 rfl rfl ?_
        refine rx_ic (v := 1) (pc2 := 62) op103_61 (by decide) rfl ?_
        refine rx_p (L2 := [some (.ref 0), some (.int a1), some (.int a2)]) (S2 := [.int a2, .int 1, .int a1]) (pc2 := 63) op103_62 rfl rfl ?_
        refine rx_p (L2 := [some (.ref 0), some (.int a1), some (.int a2)]) (S2 := [.int ((1 : Int32) <<< (a2 &&& 31)), .int a1]) (pc2 := 64) op103_63 rfl rfl ?_
        refine rx_p (L2 := [some (.ref 0), some (.int a1), some (.int a2)]) (S2 := [.int (a1 ||| ((1 : Int32) <<< (a2 &&& 31)))]) (pc2 := 65) op103_64 rfl rfl ?_
        obtain ⟨x10, ex10, gc13⟩ := rq_bv gc13
        refine rx_s (v := x10) (L2 := [some (.ref 0), some (.int x10), some (.int a2)]) (pc2 := 66) op103_65 ex10 rfl rfl ?_
        cases gc13
        exact c13 ()
    · have h := (if_neg b1).symm.trans h
      cases h
      exact hr _ _ rfl _ _
set_option maxHeartbeats 4000000 in
set_option maxRecDepth 20000 in
theorem lt_findTurned_ok (xs : List Int32) {d : Nat} (hd : 40 ≤ d) {n : Nat} {m mO : rn_Mem} {rO : Int32} (h : lt_findTurned n  m = some (rO, mO)) : rn_R xs d 103 0 (rn_ent 3 [.ref 0]) [] (rn_SH, m) (some (.int rO)) (rn_SH, mO) := by
  obtain ⟨d, rfl⟩ : ∃ e, d = e + 1 := ⟨d - 1, by omega⟩
  unfold lt_findTurned at h
  show rn_R xs (d + 1) 103 0 [some (.ref 0), none, none] [] (rn_SH, m) (some (.int rO)) (rn_SH, mO)
  refine rx_ic (v := 0) (pc2 := 1) op103_0 (by decide) rfl ?_
  refine rx_s (L2 := [some (.ref 0), some (.int 0), none]) (pc2 := 2) op103_1 rfl rfl rfl ?_
  refine rx_ic (v := 0) (pc2 := 3) op103_2 (by decide) rfl ?_
  refine rx_s (L2 := [some (.ref 0), some (.int 0), some (.int 0)]) (pc2 := 4) op103_3 rfl rfl rfl ?_
  obtain ⟨wf18, f18, h⟩ := rq_bind h
  refine lt_findTurned_l4_ok xs hd (fun x16 m14 eq => ?_) _ _ _ _  f18
  subst eq
  try dsimp only at h
  intro o15 o17
  refine rx_p (L2 := [o15, some (.int x16), o17]) (S2 := [.int x16]) (pc2 := 73) op103_72 rfl rfl ?_
  obtain ⟨rfl, rfl⟩ := rq_ret h
  exact ry_ri op103_73 ms_103 rfl
/-! lt_turned -/
theorem op102_0 : rn_op 102 0 = some (.aload_n 0, 1, 0, 0, 0) := by decide +kernel
theorem op102_1 : rn_op 102 1 = some (.getfield 19, 3, 10, 1, 3) := by decide +kernel
theorem op102_4 : rn_op 102 4 = some (.getfield 93, 3, 6, 1, 3) := by decide +kernel
theorem op102_7 : rn_op 102 7 = some (.getfield 136, 3, 7, 0, 2) := by decide +kernel
theorem op102_10 : rn_op 102 10 = some (.ifCond .ne 6, 3, 0, 0, 0) := by decide +kernel
theorem op102_13 : rn_op 102 13 = some (.bipush (-2), 2, 0, 0, 0) := by decide +kernel
theorem op102_15 : rn_op 102 15 = some (.ireturn, 1, 0, 0, 0) := by decide +kernel
theorem op102_16 : rn_op 102 16 = some (.aload_n 0, 1, 0, 0, 0) := by decide +kernel
theorem op102_17 : rn_op 102 17 = some (.getfield 81, 3, 10, 8, 0) := by decide +kernel
theorem op102_20 : rn_op 102 20 = some (.bipush 8, 2, 0, 0, 0) := by decide +kernel
theorem op102_22 : rn_op 102 22 = some (.iand, 1, 0, 0, 0) := by decide +kernel
theorem op102_23 : rn_op 102 23 = some (.ifCond .ne 22, 3, 0, 0, 0) := by decide +kernel
theorem op102_26 : rn_op 102 26 = some (.aload_n 0, 1, 0, 0, 0) := by decide +kernel
theorem op102_27 : rn_op 102 27 = some (.aload_n 0, 1, 0, 0, 0) := by decide +kernel
theorem op102_28 : rn_op 102 28 = some (.invokevirtual 229, 3, 103, 1, 10) := by decide +kernel
theorem op102_31 : rn_op 102 31 = some (.putfield 232, 3, 10, 9, 0) := by decide +kernel
theorem op102_34 : rn_op 102 34 = some (.aload_n 0, 1, 0, 0, 0) := by decide +kernel
theorem op102_35 : rn_op 102 35 = some (.dup, 1, 0, 0, 0) := by decide +kernel
theorem op102_36 : rn_op 102 36 = some (.getfield 81, 3, 10, 8, 0) := by decide +kernel
theorem op102_39 : rn_op 102 39 = some (.bipush 8, 2, 0, 0, 0) := by decide +kernel
theorem op102_41 : rn_op 102 41 = some (.ior, 1, 0, 0, 0) := by decide +kernel
theorem op102_42 : rn_op 102 42 = some (.putfield 81, 3, 10, 8, 0) := by decide +kernel
theorem op102_45 : rn_op 102 45 = some (.aload_n 0, 1, 0, 0, 0) := by decide +kernel
theorem op102_46 : rn_op 102 46 = some (.getfield 232, 3, 10, 9, 0) := by decide +kernel
theorem op102_49 : rn_op 102 49 = some (.ireturn, 1, 0, 0, 0) := by decide +kernel
def lt_turned (n : Nat)  (m : rn_Mem) : Option (Int32 × rn_Mem) :=
  if (m.1 5 0) = 0 then
    some ((-2), m)
  else
    if ((m.1 0 8) &&& 8) = 0 then
      (lt_findTurned n m).bind fun (r4, m3) =>
      (some (rm_i m3 0 9 r4)).bind fun (m6 : rn_Mem) =>
      (some (rm_i m6 0 8 ((m6.1 0 8) ||| 8))).bind fun (m7 : rn_Mem) =>
      some (m7.1 0 9, m7)
    else
      some (m.1 0 9, m)
set_option maxHeartbeats 4000000 in
set_option maxRecDepth 20000 in
theorem lt_turned_ok (xs : List Int32) {d : Nat} (hd : 41 ≤ d) {n : Nat} {m mO : rn_Mem} {rO : Int32} (h : lt_turned n  m = some (rO, mO)) : rn_R xs d 102 0 (rn_ent 1 [.ref 0]) [] (rn_SH, m) (some (.int rO)) (rn_SH, mO) := by
  obtain ⟨d, rfl⟩ : ∃ e, d = e + 1 := ⟨d - 1, by omega⟩
  unfold lt_turned at h
  show rn_R xs (d + 1) 102 0 [some (.ref 0)] [] (rn_SH, m) (some (.int rO)) (rn_SH, mO)
  refine rx_p (L2 := [some (.ref 0)]) (S2 := [.ref 0]) (pc2 := 1) op102_0 rfl rfl ?_
  refine rx_gf (v := .ref 3) (pc2 := 4) op102_1 sp_0 rfl rfl rfl ?_
  refine rx_gf (v := .ref 5) (pc2 := 7) op102_4 sp_3 rfl rfl rfl ?_
  refine rx_gf (v := .int (m.1 5 0)) (pc2 := 10) op102_7 sp_5 rfl rfl rfl ?_
  refine ry_if_ne (tgt := 16) (pc2 := 13) op102_10 (by decide) (by decide) rfl (fun b1 => ?_) (fun b1 => ?_)
  · have h := (if_pos b1).symm.trans h
    refine rx_bp (v := (-2)) (pc2 := 15) op102_13 (by decide) rfl ?_
    obtain ⟨rfl, rfl⟩ := rq_ret h
    exact ry_ri op102_15 ms_102 rfl
  · have h := (if_neg b1).symm.trans h
    refine rx_p (L2 := [some (.ref 0)]) (S2 := [.ref 0]) (pc2 := 17) op102_16 rfl rfl ?_
    refine rx_gf (v := .int (m.1 0 8)) (pc2 := 20) op102_17 sp_0 rfl rfl rfl ?_
    refine rx_bp (v := 8) (pc2 := 22) op102_20 (by decide) rfl ?_
    refine rx_p (L2 := [some (.ref 0)]) (S2 := [.int ((m.1 0 8) &&& 8)]) (pc2 := 23) op102_22 rfl rfl ?_
    refine ry_if_ne (tgt := 45) (pc2 := 26) op102_23 (by decide) (by decide) rfl (fun b2 => ?_) (fun b2 => ?_)
    · have h := (if_pos b2).symm.trans h
      refine rx_p (L2 := [some (.ref 0)]) (S2 := [.ref 0]) (pc2 := 27) op102_26 rfl rfl ?_
      refine rx_p (L2 := [some (.ref 0)]) (S2 := [.ref 0, .ref 0]) (pc2 := 28) op102_27 rfl rfl ?_
      obtain ⟨⟨r4, m3⟩, f5, h⟩ := rq_bind h
      try dsimp only at h
      refine ry_iv (p := 0) (vs := []) (T := [.ref 0]) (pc2 := 31) op102_28 ms_103 (by decide) rfl rfl (Nat.le_of_ble_eq_true rfl) (Nat.le_of_ble_eq_true rfl) sp_0 (lt_findTurned_ok xs (by omega)  f5) rfl ?_
      show rn_R _ _ _ _ _ [.int r4, .ref 0] _ _ _
      obtain ⟨m6, em6, h⟩ := rq_bv h
      refine rx_pf (m2 := m6) (pc2 := 34) op102_31 sp_0 rfl em6 rfl ?_
      refine rx_p (L2 := [some (.ref 0)]) (S2 := [.ref 0]) (pc2 := 35) op102_34 rfl rfl ?_
      refine rx_p (L2 := [some (.ref 0)]) (S2 := [.ref 0, .ref 0]) (pc2 := 36) op102_35 rfl rfl ?_
      refine rx_gf (v := .int (m6.1 0 8)) (pc2 := 39) op102_36 sp_0 rfl rfl rfl ?_
      refine rx_bp (v := 8) (pc2 := 41) op102_39 (by decide) rfl ?_
      refine rx_p (L2 := [some (.ref 0)]) (S2 := [.int ((m6.1 0 8) ||| 8), .ref 0]) (pc2 := 42) op102_41 rfl rfl ?_
      obtain ⟨m7, em7, h⟩ := rq_bv h
      refine rx_pf (m2 := m7) (pc2 := 45) op102_42 sp_0 rfl em7 rfl ?_
      refine rx_p (L2 := [some (.ref 0)]) (S2 := [.ref 0]) (pc2 := 46) op102_45 rfl rfl ?_
      refine rx_gf (v := .int (m7.1 0 9)) (pc2 := 49) op102_46 sp_0 rfl rfl rfl ?_
      obtain ⟨rfl, rfl⟩ := rq_ret h
      exact ry_ri op102_49 ms_102 rfl
    · have h := (if_neg b2).symm.trans h
      refine rx_p (L2 := [some (.ref 0)]) (S2 := [.ref 0]) (pc2 := 46) op102_45 rfl rfl ?_
      refine rx_gf (v := .int (m.1 0 9)) (pc2 := 49) op102_46 sp_0 rfl rfl rfl ?_
      obtain ⟨rfl, rfl⟩ := rq_ret h
      exact ry_ri op102_49 ms_102 rfl
/-! lt_findOthers -/
theorem op107_0 : rn_op 107 0 = some (.iconst 0, 1, 0, 0, 0) := by decide +kernel
theorem op107_1 : rn_op 107 1 = some (.istore_n 1, 1, 0, 0, 0) := by decide +kernel
theorem op107_2 : rn_op 107 2 = some (.iconst (-1), 1, 0, 0, 0) := by decide +kernel
theorem op107_3 : rn_op 107 3 = some (.istore_n 2, 1, 0, 0, 0) := by decide +kernel
theorem op107_4 : rn_op 107 4 = some (.iload_n 2, 1, 0, 0, 0) := by decide +kernel
theorem op107_5 : rn_op 107 5 = some (.iconst 4, 1, 0, 0, 0) := by decide +kernel
theorem op107_6 : rn_op 107 6 = some (.if_icmp .ge 133, 3, 0, 0, 0) := by decide +kernel
theorem op107_9 : rn_op 107 9 = some (.iconst 0, 1, 0, 0, 0) := by decide +kernel
theorem op107_10 : rn_op 107 10 = some (.istore_n 3, 1, 0, 0, 0) := by decide +kernel
theorem op107_11 : rn_op 107 11 = some (.iload_n 3, 1, 0, 0, 0) := by decide +kernel
theorem op107_12 : rn_op 107 12 = some (.iconst 2, 1, 0, 0, 0) := by decide +kernel
theorem op107_13 : rn_op 107 13 = some (.if_icmp .ge 120, 3, 0, 0, 0) := by decide +kernel
theorem op107_16 : rn_op 107 16 = some (.iconst 0, 1, 0, 0, 0) := by decide +kernel
theorem op107_17 : rn_op 107 17 = some (.istore 4, 2, 0, 0, 0) := by decide +kernel
theorem op107_19 : rn_op 107 19 = some (.iconst 0, 1, 0, 0, 0) := by decide +kernel
theorem op107_20 : rn_op 107 20 = some (.istore 5, 2, 0, 0, 0) := by decide +kernel
theorem op107_22 : rn_op 107 22 = some (.iload 5, 2, 0, 0, 0) := by decide +kernel
theorem op107_24 : rn_op 107 24 = some (.getstatic 322, 3, 1, 0, 0) := by decide +kernel
theorem op107_27 : rn_op 107 27 = some (.arraylength, 1, 0, 0, 0) := by decide +kernel
theorem op107_28 : rn_op 107 28 = some (.if_icmp .ge 99, 3, 0, 0, 0) := by decide +kernel
theorem op107_31 : rn_op 107 31 = some (.getstatic 322, 3, 1, 0, 0) := by decide +kernel
theorem op107_34 : rn_op 107 34 = some (.iload 5, 2, 0, 0, 0) := by decide +kernel
theorem op107_36 : rn_op 107 36 = some (.iaload, 1, 0, 0, 0) := by decide +kernel
theorem op107_37 : rn_op 107 37 = some (.istore 6, 2, 0, 0, 0) := by decide +kernel
theorem op107_39 : rn_op 107 39 = some (.iload 4, 2, 0, 0, 0) := by decide +kernel
theorem op107_41 : rn_op 107 41 = some (.ifCond .ne 57, 3, 0, 0, 0) := by decide +kernel
theorem op107_44 : rn_op 107 44 = some (.aload_n 0, 1, 0, 0, 0) := by decide +kernel
theorem op107_45 : rn_op 107 45 = some (.getfield 32, 3, 10, 4, 3) := by decide +kernel
theorem op107_48 : rn_op 107 48 = some (.aload_n 0, 1, 0, 0, 0) := by decide +kernel
theorem op107_49 : rn_op 107 49 = some (.getfield 19, 3, 10, 1, 3) := by decide +kernel
theorem op107_52 : rn_op 107 52 = some (.invokevirtual 213, 3, 61, 2, 4) := by decide +kernel
theorem op107_55 : rn_op 107 55 = some (.aload_n 0, 1, 0, 0, 0) := by decide +kernel
theorem op107_56 : rn_op 107 56 = some (.getfield 32, 3, 10, 4, 3) := by decide +kernel
theorem op107_59 : rn_op 107 59 = some (.getfield 325, 3, 4, 0, 3) := by decide +kernel
theorem op107_62 : rn_op 107 62 = some (.iload_n 2, 1, 0, 0, 0) := by decide +kernel
theorem op107_63 : rn_op 107 63 = some (.putfield 326, 3, 1, 4, 0) := by decide +kernel
theorem op107_66 : rn_op 107 66 = some (.aload_n 0, 1, 0, 0, 0) := by decide +kernel
theorem op107_67 : rn_op 107 67 = some (.getfield 32, 3, 10, 4, 3) := by decide +kernel
theorem op107_70 : rn_op 107 70 = some (.getfield 325, 3, 4, 0, 3) := by decide +kernel
theorem op107_73 : rn_op 107 73 = some (.iload 6, 2, 0, 0, 0) := by decide +kernel
theorem op107_75 : rn_op 107 75 = some (.putfield 329, 3, 1, 5, 0) := by decide +kernel
theorem op107_78 : rn_op 107 78 = some (.aload_n 0, 1, 0, 0, 0) := by decide +kernel
theorem op107_79 : rn_op 107 79 = some (.getfield 32, 3, 10, 4, 3) := by decide +kernel
theorem op107_82 : rn_op 107 82 = some (.getfield 325, 3, 4, 0, 3) := by decide +kernel
theorem op107_85 : rn_op 107 85 = some (.iload_n 3, 1, 0, 0, 0) := by decide +kernel
theorem op107_86 : rn_op 107 86 = some (.putfield 332, 3, 1, 6, 0) := by decide +kernel
theorem op107_89 : rn_op 107 89 = some (.aload_n 0, 1, 0, 0, 0) := by decide +kernel
theorem op107_90 : rn_op 107 90 = some (.getfield 32, 3, 10, 4, 3) := by decide +kernel
theorem op107_93 : rn_op 107 93 = some (.invokevirtual 318, 3, 105, 1, 4) := by decide +kernel
theorem op107_96 : rn_op 107 96 = some (.istore 4, 2, 0, 0, 0) := by decide +kernel
theorem op107_98 : rn_op 107 98 = some (.iload 4, 2, 0, 0, 0) := by decide +kernel
theorem op107_100 : rn_op 107 100 = some (.ifCond .eq 21, 3, 0, 0, 0) := by decide +kernel
theorem op107_103 : rn_op 107 103 = some (.iload_n 1, 1, 0, 0, 0) := by decide +kernel
theorem op107_104 : rn_op 107 104 = some (.iconst 1, 1, 0, 0, 0) := by decide +kernel
theorem op107_105 : rn_op 107 105 = some (.bipush 6, 2, 0, 0, 0) := by decide +kernel
theorem op107_107 : rn_op 107 107 = some (.iload_n 2, 1, 0, 0, 0) := by decide +kernel
theorem op107_108 : rn_op 107 108 = some (.iconst 1, 1, 0, 0, 0) := by decide +kernel
theorem op107_109 : rn_op 107 109 = some (.iadd, 1, 0, 0, 0) := by decide +kernel
theorem op107_110 : rn_op 107 110 = some (.imul, 1, 0, 0, 0) := by decide +kernel
theorem op107_111 : rn_op 107 111 = some (.iconst 2, 1, 0, 0, 0) := by decide +kernel
theorem op107_112 : rn_op 107 112 = some (.iload 6, 2, 0, 0, 0) := by decide +kernel
theorem op107_114 : rn_op 107 114 = some (.imul, 1, 0, 0, 0) := by decide +kernel
theorem op107_115 : rn_op 107 115 = some (.iadd, 1, 0, 0, 0) := by decide +kernel
theorem op107_116 : rn_op 107 116 = some (.iload_n 3, 1, 0, 0, 0) := by decide +kernel
theorem op107_117 : rn_op 107 117 = some (.iadd, 1, 0, 0, 0) := by decide +kernel
theorem op107_118 : rn_op 107 118 = some (.ishl, 1, 0, 0, 0) := by decide +kernel
theorem op107_119 : rn_op 107 119 = some (.ior, 1, 0, 0, 0) := by decide +kernel
theorem op107_120 : rn_op 107 120 = some (.istore_n 1, 1, 0, 0, 0) := by decide +kernel
theorem op107_121 : rn_op 107 121 = some (.iinc 5 1, 3, 0, 0, 0) := by decide +kernel
theorem op107_124 : rn_op 107 124 = some (.goto (-102), 3, 0, 0, 0) := by decide +kernel
theorem op107_127 : rn_op 107 127 = some (.iinc 3 1, 3, 0, 0, 0) := by decide +kernel
theorem op107_130 : rn_op 107 130 = some (.goto (-119), 3, 0, 0, 0) := by decide +kernel
theorem op107_133 : rn_op 107 133 = some (.iinc 2 1, 3, 0, 0, 0) := by decide +kernel
theorem op107_136 : rn_op 107 136 = some (.goto (-132), 3, 0, 0, 0) := by decide +kernel
theorem op107_139 : rn_op 107 139 = some (.iload_n 1, 1, 0, 0, 0) := by decide +kernel
theorem op107_140 : rn_op 107 140 = some (.ireturn, 1, 0, 0, 0) := by decide +kernel
def lt_findOthers_l22 (a2 : Int32) (a3 : Int32) : Nat → Int32 → Int32 → Int32 → rn_Mem → Option (Int32 × rn_Mem)
  | 0, _, _, _, _ => none
  | n + 1, a1, a4, a5, m =>
    if a5 < (Int32.ofNat rn_strict.length) then
      if rn_in a5 (rn_strict.length) = true then
        (some (rn_strict.getD a5.toNatClampNeg 0)).bind fun (x5 : Int32) =>
        (show Option (Int32 × rn_Mem) from
          if a4 = 0 then
            (se_take n 3 m).bind fun m7 =>
            (some (rm_i m7 52 4 a2)).bind fun (m9 : rn_Mem) =>
            (some (rm_i m9 52 5 x5)).bind fun (m10 : rn_Mem) =>
            (some (rm_i m10 52 6 a3)).bind fun (m11 : rn_Mem) =>
            (se_findsOne n m11).bind fun (r13, m12) =>
            some (r13, m12)
          else
            some (a4, m)).bind fun (x15, m16) =>
        (show Option (Int32) from
          if x15 = 0 then
            some (a1)
          else
            (some (a1 ||| ((1 : Int32) <<< (((((6 : Int32) * (a2 + 1)) + ((2 : Int32) * x5)) + a3) &&& 31)))).bind fun (x18 : Int32) =>
            some (x18)).bind fun x19 =>
        (some (a5 + 1)).bind fun (x21 : Int32) =>
        lt_findOthers_l22 a2 a3 n x19 x15 x21 m16
      else none
    else
      some (a1, m)
def lt_findOthers_l11 (a2 : Int32) : Nat → Int32 → Int32 → rn_Mem → Option (Int32 × rn_Mem)
  | 0, _, _, _ => none
  | n + 1, a1, a3, m =>
    if a3 < 2 then
      (lt_findOthers_l22 a2 a3 n a1 0 0 m).bind fun (x25, m24) =>
      (some (a3 + 1)).bind fun (x29 : Int32) =>
      lt_findOthers_l11 a2 n x25 x29 m24
    else
      some (a1, m)
def lt_findOthers_l4  : Nat → Int32 → Int32 → rn_Mem → Option (Int32 × rn_Mem)
  | 0, _, _, _ => none
  | n + 1, a1, a2, m =>
    if a2 < 4 then
      (lt_findOthers_l11 a2 n a1 0 m).bind fun (x32, m31) =>
      (some (a2 + 1)).bind fun (x37 : Int32) =>
      lt_findOthers_l4 n x32 x37 m31
    else
      some (a1, m)
def lt_findOthers (n : Nat)  (m : rn_Mem) : Option (Int32 × rn_Mem) :=
  (lt_findOthers_l4 n 0 (-1) m).bind fun (x41, m39) =>
  some (x41, m39)
set_option maxHeartbeats 4000000 in
set_option maxRecDepth 20000 in
theorem lt_findOthers_l22_ok (xs : List Int32) {d : Nat} (hd : 40 ≤ d + 1) {a2 : Int32} {a3 : Int32} {r : Option Value} {τ : rn_H} {out : Int32 × rn_Mem} (hr : ∀ (z1 : Int32) (mO : rn_Mem), out = (z1, mO) → ∀ (o4 o5 o6 : Option Value), rn_R xs (d + 1) 107 127 [some (.ref 0), some (.int z1), some (.int a2), some (.int a3), o4, o5, o6] [] (rn_SH, mO) r τ) : ∀ (n : Nat) (a1 : Int32) (a4 : Int32) (a5 : Int32) (o6 : Option Value) (m : rn_Mem), lt_findOthers_l22 a2 a3 n a1 a4 a5 m = some out → rn_R xs (d + 1) 107 22 [some (.ref 0), some (.int a1), some (.int a2), some (.int a3), some (.int a4), some (.int a5), o6] [] (rn_SH, m) r τ := by
  intro n
  induction n with
  | zero =>
    intro _ _ _ _ _ h
    cases h
  | succ n ih =>
    intro a1 a4 a5 o6 m h
    unfold lt_findOthers_l22 at h
    try dsimp only at h
    refine rx_p (L2 := [some (.ref 0), some (.int a1), some (.int a2), some (.int a3), some (.int a4), some (.int a5), o6]) (S2 := [.int a5]) (pc2 := 24) op107_22 rfl rfl ?_
    refine rx_gs (pc2 := 27) op107_24 rfl ?_
    refine rx_aly (pc2 := 28) op107_27 (by decide) (by decide) rfl ?_
    show rn_R _ _ _ _ _ [.int (Int32.ofNat rn_strict.length), .int a5] _ _ _
    refine ry_ic_ge (tgt := 127) (pc2 := 31) op107_28 (by decide) (by decide) rfl (fun b3 => ?_) (fun b3 => ?_)
    · have h := (if_pos b3).symm.trans h
      refine rx_gs (pc2 := 34) op107_31 rfl ?_
      refine rx_p (L2 := [some (.ref 0), some (.int a1), some (.int a2), some (.int a3), some (.int a4), some (.int a5), o6]) (S2 := [.int a5, .ref 10001]) (pc2 := 36) op107_34 rfl rfl ?_
      obtain ⟨k4, h⟩ := rq_chk h
      refine rx_ix (pc2 := 37) op107_36 (by decide) k4 rfl ?_
      show rn_R _ _ _ _ _ [.int (rn_strict.getD a5.toNatClampNeg 0)] _ _ _
      obtain ⟨x5, ex5, h⟩ := rq_bv h
      refine rx_s (v := x5) (L2 := [some (.ref 0), some (.int a1), some (.int a2), some (.int a3), some (.int a4), some (.int a5), some (.int x5)]) (pc2 := 39) op107_37 ex5 rfl rfl ?_
      refine rx_p (L2 := [some (.ref 0), some (.int a1), some (.int a2), some (.int a3), some (.int a4), some (.int a5), some (.int x5)]) (S2 := [.int a4]) (pc2 := 41) op107_39 rfl rfl ?_
      obtain ⟨⟨x15, m16⟩, gc23, h⟩ := rq_bind h
      try dsimp only at h
      have c23 : ∀ (_ : Unit), rn_R xs (d + 1) 107 98 [some (.ref 0), some (.int a1), some (.int a2), some (.int a3), some (.int x15), some (.int a5), some (.int x5)] [] (rn_SH, m16) r τ := by
        intro _
        refine rx_p (L2 := [some (.ref 0), some (.int a1), some (.int a2), some (.int a3), some (.int x15), some (.int a5), some (.int x5)]) (S2 := [.int x15]) (pc2 := 100) op107_98 rfl rfl ?_
        obtain ⟨x19, gc22, h⟩ := rq_bind h
        try dsimp only at h
        have c22 : ∀ (o20 : Option Value), rn_R xs (d + 1) 107 121 [some (.ref 0), some (.int x19), some (.int a2), some (.int a3), some (.int x15), some (.int a5), o20] [] (rn_SH, m16) r τ := by
          intro o20
          obtain ⟨x21, ex21, h⟩ := rq_bv h
          refine rx_inc (w := 1) (v := x21) (L2 := [some (.ref 0), some (.int x19), some (.int a2), some (.int a3), some (.int x15), some (.int x21), o20]) (pc2 := 124) op107_121 rfl (by decide) ex21 rfl rfl ?_
          refine ry_go (tgt := 22) op107_124 (by decide) (by decide) ?_
          exact ih _ _ _ _ _ h
        refine ry_if_eq (tgt := 121) (pc2 := 103) op107_100 (by decide) (by decide) rfl (fun b17 => ?_) (fun b17 => ?_)
        · have gc22 := (if_pos b17).symm.trans gc22
          cases gc22
          exact c22 _
        · have gc22 := (if_neg b17).symm.trans gc22
          refine rx_p (L2 := [some (.ref 0), some (.int a1), some (.int a2), some (.int a3), some (.int x15), some (.int a5), some (.int x5)]) (S2 := [.int a1]) (pc2 := 104) op107_103 rfl rfl ?_
          refine rx_ic (v := 1) (pc2 := 105) op107_104 (by decide) rfl ?_
          refine rx_bp (v := 6) (pc2 := 107) op107_105 (by decide) rfl ?_
          refine rx_p (L2 := [some (.ref 0), some (.int a1), some (.int a2), some (.int a3), some (.int x15), some (.int a5), some (.int x5)]) (S2 := [.int a2, .int 6, .int 1, .int a1]) (pc2 := 108) op107_107 rfl rfl ?_
          refine rx_ic (v := 1) (pc2 := 109) op107_108 (by decide) rfl ?_
          refine rx_p (L2 := [some (.ref 0), some (.int a1), some (.int a2), some (.int a3), some (.int x15), some (.int a5), some (.int x5)]) (S2 := [.int (a2 + 1), .int 6, .int 1, .int a1]) (pc2 := 110) op107_109 rfl rfl ?_
          refine rx_p (L2 := [some (.ref 0), some (.int a1), some (.int a2), some (.int a3), some (.int x15), some (.int a5), some (.int x5)]) (S2 := [.int ((6 : Int32) * (a2 + 1)), .int 1, .int a1]) (pc2 := 111) op107_110 rfl rfl ?_
          refine rx_ic (v := 2) (pc2 := 112) op107_111 (by decide) rfl ?_
          refine rx_p (L2 := [some (.ref 0), some (.int a1), some (.int a2), some (.int a3), some (.int x15), some (.int a5), some (.int x5)]) (S2 := [.int x5, .int 2, .int ((6 : Int32) * (a2 + 1)), .int 1, .int a1]) (pc2 := 114) op107_112 rfl rfl ?_
          refine rx_p (L2 := [some (.ref 0), some (.int a1), some (.int a2), some (.int a3), some (.int x15), some (.int a5), some (.int x5)]) (S2 := [.int ((2 : Int32) * x5), .int ((6 : Int32) * (a2 + 1)), .int 1, .int a1]) (pc2 := 115) op107_114 rfl rfl ?_
          refine rx_p (L2 := [some (.ref 0), some (.int a1), some (.int a2), some (.int a3), some (.int x15), some (.int a5), some (.int x5)]) (S2 := [.int (((6 : Int32) * (a2 + 1)) + ((2 : Int32) * x5)), .int 1, .int a1]) (pc2 := 116) op107_115 rfl rfl ?_
          refine rx_p (L2 := [some (.ref 0), some (.int a1), some (.int a2), some (.int a3), some (.int x15), some (.int a5), some (.int x5)]) (S2 := [.int a3, .int (((6 : Int32) * (a2 + 1)) + ((2 : Int32) * x5)), .int 1, .int a1]) (pc2 := 117) op107_116 rfl rfl ?_
          refine rx_p (L2 := [some (.ref 0), some (.int a1), some (.int a2), some (.int a3), some (.int x15), some (.int a5), some (.int x5)]) (S2 := [.int ((((6 : Int32) * (a2 + 1)) + ((2 : Int32) * x5)) + a3), .int 1, .int a1]) (pc2 := 118) op107_117 rfl rfl ?_
          refine rx_p (L2 := [some (.ref 0), some (.int a1), some (.int a2), some (.int a3), some (.int x15), some (.int a5), some (.int x5)]) (S2 := [.int ((1 : Int32) <<< (((((6 : Int32) * (a2 + 1)) + ((2 : Int32) * x5)) + a3) &&& 31)), .int a1]) (pc2 := 119) op107_118 rfl rfl ?_
          refine rx_p (L2 := [some (.ref 0), some (.int a1), some (.int a2), some (.int a3), some (.int x15), some (.int a5), some (.int x5)]) (S2 := [.int (a1 ||| ((1 : Int32) <<< (((((6 : Int32) * (a2 + 1)) + ((2 : Int32) * x5)) + a3) &&& 31)))]) (pc2 := 120) op107_119 rfl rfl ?_
          obtain ⟨x18, ex18, gc22⟩ := rq_bv gc22
          refine rx_s (v := x18) (L2 := [some (.ref 0), some (.int x18), some (.int a2), some (.int a3), some (.int x15), some (.int a5), some (.int x5)]) (pc2 := 121) op107_120 ex18 rfl rfl ?_
          cases gc22
          exact c22 _
      refine ry_if_ne (tgt := 98) (pc2 := 44) op107_41 (by decide) (by decide) rfl (fun b6 => ?_) (fun b6 => ?_)
      · have gc23 := (if_pos b6).symm.trans gc23
        refine rx_p (L2 := [some (.ref 0), some (.int a1), some (.int a2), some (.int a3), some (.int a4), some (.int a5), some (.int x5)]) (S2 := [.ref 0]) (pc2 := 45) op107_44 rfl rfl ?_
        refine rx_gf (v := .ref 51) (pc2 := 48) op107_45 sp_0 rfl rfl rfl ?_
        refine rx_p (L2 := [some (.ref 0), some (.int a1), some (.int a2), some (.int a3), some (.int a4), some (.int a5), some (.int x5)]) (S2 := [.ref 0, .ref 51]) (pc2 := 49) op107_48 rfl rfl ?_
        refine rx_gf (v := .ref 3) (pc2 := 52) op107_49 sp_0 rfl rfl rfl ?_
        obtain ⟨m7, f8, gc23⟩ := rq_bind gc23
        try dsimp only at gc23
        refine ry_iv (p := 51) (vs := [.ref 3]) (T := []) (pc2 := 55) op107_52 ms_61 (by decide) rfl rfl (Nat.le_of_ble_eq_true rfl) (Nat.le_of_ble_eq_true rfl) sp_51 (se_take_ok xs (by omega) sa_3 f8) rfl ?_
        show rn_R _ _ _ _ _ [] _ _ _
        refine rx_p (L2 := [some (.ref 0), some (.int a1), some (.int a2), some (.int a3), some (.int a4), some (.int a5), some (.int x5)]) (S2 := [.ref 0]) (pc2 := 56) op107_55 rfl rfl ?_
        refine rx_gf (v := .ref 51) (pc2 := 59) op107_56 sp_0 rfl rfl rfl ?_
        refine rx_gf (v := .ref 52) (pc2 := 62) op107_59 sp_51 rfl rfl rfl ?_
        refine rx_p (L2 := [some (.ref 0), some (.int a1), some (.int a2), some (.int a3), some (.int a4), some (.int a5), some (.int x5)]) (S2 := [.int a2, .ref 52]) (pc2 := 63) op107_62 rfl rfl ?_
        obtain ⟨m9, em9, gc23⟩ := rq_bv gc23
        refine rx_pf (m2 := m9) (pc2 := 66) op107_63 sp_52 rfl em9 rfl ?_
        refine rx_p (L2 := [some (.ref 0), some (.int a1), some (.int a2), some (.int a3), some (.int a4), some (.int a5), some (.int x5)]) (S2 := [.ref 0]) (pc2 := 67) op107_66 rfl rfl ?_
        refine rx_gf (v := .ref 51) (pc2 := 70) op107_67 sp_0 rfl rfl rfl ?_
        refine rx_gf (v := .ref 52) (pc2 := 73) op107_70 sp_51 rfl rfl rfl ?_
        refine rx_p (L2 := [some (.ref 0), some (.int a1), some (.int a2), some (.int a3), some (.int a4), some (.int a5), some (.int x5)]) (S2 := [.int x5, .ref 52]) (pc2 := 75) op107_73 rfl rfl ?_
        obtain ⟨m10, em10, gc23⟩ := rq_bv gc23
        refine rx_pf (m2 := m10) (pc2 := 78) op107_75 sp_52 rfl em10 rfl ?_
        refine rx_p (L2 := [some (.ref 0), some (.int a1), some (.int a2), some (.int a3), some (.int a4), some (.int a5), some (.int x5)]) (S2 := [.ref 0]) (pc2 := 79) op107_78 rfl rfl ?_
        refine rx_gf (v := .ref 51) (pc2 := 82) op107_79 sp_0 rfl rfl rfl ?_
        refine rx_gf (v := .ref 52) (pc2 := 85) op107_82 sp_51 rfl rfl rfl ?_
        refine rx_p (L2 := [some (.ref 0), some (.int a1), some (.int a2), some (.int a3), some (.int a4), some (.int a5), some (.int x5)]) (S2 := [.int a3, .ref 52]) (pc2 := 86) op107_85 rfl rfl ?_
        obtain ⟨m11, em11, gc23⟩ := rq_bv gc23
        refine rx_pf (m2 := m11) (pc2 := 89) op107_86 sp_52 rfl em11 rfl ?_
        refine rx_p (L2 := [some (.ref 0), some (.int a1), some (.int a2), some (.int a3), some (.int a4), some (.int a5), some (.int x5)]) (S2 := [.ref 0]) (pc2 := 90) op107_89 rfl rfl ?_
        refine rx_gf (v := .ref 51) (pc2 := 93) op107_90 sp_0 rfl rfl rfl ?_
        obtain ⟨⟨r13, m12⟩, f14, gc23⟩ := rq_bind gc23
        try dsimp only at gc23
        refine ry_iv (p := 51) (vs := []) (T := []) (pc2 := 96) op107_93 ms_105 (by decide) rfl rfl (Nat.le_of_ble_eq_true rfl) (Nat.le_of_ble_eq_true rfl) sp_51 (se_findsOne_ok xs (by omega)  f14) rfl ?_
        show rn_R _ _ _ _ _ [.int r13] _ _ _
        refine rx_s (L2 := [some (.ref 0), some (.int a1), some (.int a2), some (.int a3), some (.int r13), some (.int a5), some (.int x5)]) (pc2 := 98) op107_96 rfl rfl rfl ?_
        cases gc23
        exact c23 ()
      · have gc23 := (if_neg b6).symm.trans gc23
        cases gc23
        exact c23 ()
    · have h := (if_neg b3).symm.trans h
      cases h
      exact hr _ _ rfl _ _ _
set_option maxHeartbeats 4000000 in
set_option maxRecDepth 20000 in
theorem lt_findOthers_l11_ok (xs : List Int32) {d : Nat} (hd : 40 ≤ d + 1) {a2 : Int32} {r : Option Value} {τ : rn_H} {out : Int32 × rn_Mem} (hr : ∀ (z1 : Int32) (mO : rn_Mem), out = (z1, mO) → ∀ (o3 o4 o5 o6 : Option Value), rn_R xs (d + 1) 107 133 [some (.ref 0), some (.int z1), some (.int a2), o3, o4, o5, o6] [] (rn_SH, mO) r τ) : ∀ (n : Nat) (a1 : Int32) (a3 : Int32) (o4 o5 o6 : Option Value) (m : rn_Mem), lt_findOthers_l11 a2 n a1 a3 m = some out → rn_R xs (d + 1) 107 11 [some (.ref 0), some (.int a1), some (.int a2), some (.int a3), o4, o5, o6] [] (rn_SH, m) r τ := by
  intro n
  induction n with
  | zero =>
    intro _ _ _ _ _ _ h
    cases h
  | succ n ih =>
    intro a1 a3 o4 o5 o6 m h
    unfold lt_findOthers_l11 at h
    try dsimp only at h
    refine rx_p (L2 := [some (.ref 0), some (.int a1), some (.int a2), some (.int a3), o4, o5, o6]) (S2 := [.int a3]) (pc2 := 12) op107_11 rfl rfl ?_
    refine rx_ic (v := 2) (pc2 := 13) op107_12 (by decide) rfl ?_
    refine ry_ic_ge (tgt := 133) (pc2 := 16) op107_13 (by decide) (by decide) rfl (fun b2 => ?_) (fun b2 => ?_)
    · have h := (if_pos b2).symm.trans h
      refine rx_ic (v := 0) (pc2 := 17) op107_16 (by decide) rfl ?_
      refine rx_s (L2 := [some (.ref 0), some (.int a1), some (.int a2), some (.int a3), some (.int 0), o5, o6]) (pc2 := 19) op107_17 rfl rfl rfl ?_
      refine rx_ic (v := 0) (pc2 := 20) op107_19 (by decide) rfl ?_
      refine rx_s (L2 := [some (.ref 0), some (.int a1), some (.int a2), some (.int a3), some (.int 0), some (.int 0), o6]) (pc2 := 22) op107_20 rfl rfl rfl ?_
      obtain ⟨wf30, f30, h⟩ := rq_bind h
      refine lt_findOthers_l22_ok xs hd (fun x25 m24 eq => ?_) _ _ _ _ _ _  f30
      subst eq
      try dsimp only at h
      intro o26 o27 o28
      obtain ⟨x29, ex29, h⟩ := rq_bv h
      refine rx_inc (w := 1) (v := x29) (L2 := [some (.ref 0), some (.int x25), some (.int a2), some (.int x29), o26, o27, o28]) (pc2 := 130) op107_127 rfl (by decide) ex29 rfl rfl ?_
      refine ry_go (tgt := 11) op107_130 (by decide) (by decide) ?_
      exact ih _ _ _ _ _ _ h
    · have h := (if_neg b2).symm.trans h
      cases h
      exact hr _ _ rfl _ _ _ _
set_option maxHeartbeats 4000000 in
set_option maxRecDepth 20000 in
theorem lt_findOthers_l4_ok (xs : List Int32) {d : Nat} (hd : 40 ≤ d + 1) {r : Option Value} {τ : rn_H} {out : Int32 × rn_Mem} (hr : ∀ (z1 : Int32) (mO : rn_Mem), out = (z1, mO) → ∀ (o0 o2 o3 o4 o5 o6 : Option Value), rn_R xs (d + 1) 107 139 [o0, some (.int z1), o2, o3, o4, o5, o6] [] (rn_SH, mO) r τ) : ∀ (n : Nat) (a1 : Int32) (a2 : Int32) (o3 o4 o5 o6 : Option Value) (m : rn_Mem), lt_findOthers_l4 n a1 a2 m = some out → rn_R xs (d + 1) 107 4 [some (.ref 0), some (.int a1), some (.int a2), o3, o4, o5, o6] [] (rn_SH, m) r τ := by
  intro n
  induction n with
  | zero =>
    intro _ _ _ _ _ _ _ h
    cases h
  | succ n ih =>
    intro a1 a2 o3 o4 o5 o6 m h
    unfold lt_findOthers_l4 at h
    try dsimp only at h
    refine rx_p (L2 := [some (.ref 0), some (.int a1), some (.int a2), o3, o4, o5, o6]) (S2 := [.int a2]) (pc2 := 5) op107_4 rfl rfl ?_
    refine rx_ic (v := 4) (pc2 := 6) op107_5 (by decide) rfl ?_
    refine ry_ic_ge (tgt := 139) (pc2 := 9) op107_6 (by decide) (by decide) rfl (fun b1 => ?_) (fun b1 => ?_)
    · have h := (if_pos b1).symm.trans h
      refine rx_ic (v := 0) (pc2 := 10) op107_9 (by decide) rfl ?_
      refine rx_s (L2 := [some (.ref 0), some (.int a1), some (.int a2), some (.int 0), o4, o5, o6]) (pc2 := 11) op107_10 rfl rfl rfl ?_
      obtain ⟨wf38, f38, h⟩ := rq_bind h
      refine lt_findOthers_l11_ok xs hd (fun x32 m31 eq => ?_) _ _ _ _ _ _ _  f38
      subst eq
      try dsimp only at h
      intro o33 o34 o35 o36
      obtain ⟨x37, ex37, h⟩ := rq_bv h
      refine rx_inc (w := 1) (v := x37) (L2 := [some (.ref 0), some (.int x32), some (.int x37), o33, o34, o35, o36]) (pc2 := 136) op107_133 rfl (by decide) ex37 rfl rfl ?_
      refine ry_go (tgt := 4) op107_136 (by decide) (by decide) ?_
      exact ih _ _ _ _ _ _ _ h
    · have h := (if_neg b1).symm.trans h
      cases h
      exact hr _ _ rfl _ _ _ _ _ _
set_option maxHeartbeats 4000000 in
set_option maxRecDepth 20000 in
theorem lt_findOthers_ok (xs : List Int32) {d : Nat} (hd : 40 ≤ d) {n : Nat} {m mO : rn_Mem} {rO : Int32} (h : lt_findOthers n  m = some (rO, mO)) : rn_R xs d 107 0 (rn_ent 7 [.ref 0]) [] (rn_SH, m) (some (.int rO)) (rn_SH, mO) := by
  obtain ⟨d, rfl⟩ : ∃ e, d = e + 1 := ⟨d - 1, by omega⟩
  unfold lt_findOthers at h
  show rn_R xs (d + 1) 107 0 [some (.ref 0), none, none, none, none, none, none] [] (rn_SH, m) (some (.int rO)) (rn_SH, mO)
  refine rx_ic (v := 0) (pc2 := 1) op107_0 (by decide) rfl ?_
  refine rx_s (L2 := [some (.ref 0), some (.int 0), none, none, none, none, none]) (pc2 := 2) op107_1 rfl rfl rfl ?_
  refine rx_ic (v := (-1)) (pc2 := 3) op107_2 (by decide) rfl ?_
  refine rx_s (L2 := [some (.ref 0), some (.int 0), some (.int (-1)), none, none, none, none]) (pc2 := 4) op107_3 rfl rfl rfl ?_
  obtain ⟨wf47, f47, h⟩ := rq_bind h
  refine lt_findOthers_l4_ok xs hd (fun x41 m39 eq => ?_) _ _ _ _ _ _ _ _  f47
  subst eq
  try dsimp only at h
  intro o40 o42 o43 o44 o45 o46
  refine rx_p (L2 := [o40, some (.int x41), o42, o43, o44, o45, o46]) (S2 := [.int x41]) (pc2 := 140) op107_139 rfl rfl ?_
  obtain ⟨rfl, rfl⟩ := rq_ret h
  exact ry_ri op107_140 ms_107 rfl
/-! lt_others -/
theorem op106_0 : rn_op 106 0 = some (.iload_n 1, 1, 0, 0, 0) := by decide +kernel
theorem op106_1 : rn_op 106 1 = some (.iconst (-1), 1, 0, 0, 0) := by decide +kernel
theorem op106_2 : rn_op 106 2 = some (.if_icmp .lt 9, 3, 0, 0, 0) := by decide +kernel
theorem op106_5 : rn_op 106 5 = some (.iload_n 1, 1, 0, 0, 0) := by decide +kernel
theorem op106_6 : rn_op 106 6 = some (.bipush 30, 2, 0, 0, 0) := by decide +kernel
theorem op106_8 : rn_op 106 8 = some (.if_icmp .lt 5, 3, 0, 0, 0) := by decide +kernel
theorem op106_11 : rn_op 106 11 = some (.iconst (-1), 1, 0, 0, 0) := by decide +kernel
theorem op106_12 : rn_op 106 12 = some (.ireturn, 1, 0, 0, 0) := by decide +kernel
theorem op106_13 : rn_op 106 13 = some (.aload_n 0, 1, 0, 0, 0) := by decide +kernel
theorem op106_14 : rn_op 106 14 = some (.getfield 19, 3, 10, 1, 3) := by decide +kernel
theorem op106_17 : rn_op 106 17 = some (.getfield 93, 3, 6, 1, 3) := by decide +kernel
theorem op106_20 : rn_op 106 20 = some (.getfield 136, 3, 7, 0, 2) := by decide +kernel
theorem op106_23 : rn_op 106 23 = some (.ifCond .ne 6, 3, 0, 0, 0) := by decide +kernel
theorem op106_26 : rn_op 106 26 = some (.bipush (-2), 2, 0, 0, 0) := by decide +kernel
theorem op106_28 : rn_op 106 28 = some (.ireturn, 1, 0, 0, 0) := by decide +kernel
theorem op106_29 : rn_op 106 29 = some (.aload_n 0, 1, 0, 0, 0) := by decide +kernel
theorem op106_30 : rn_op 106 30 = some (.getfield 81, 3, 10, 8, 0) := by decide +kernel
theorem op106_33 : rn_op 106 33 = some (.bipush 16, 2, 0, 0, 0) := by decide +kernel
theorem op106_35 : rn_op 106 35 = some (.iand, 1, 0, 0, 0) := by decide +kernel
theorem op106_36 : rn_op 106 36 = some (.ifCond .ne 22, 3, 0, 0, 0) := by decide +kernel
theorem op106_39 : rn_op 106 39 = some (.aload_n 0, 1, 0, 0, 0) := by decide +kernel
theorem op106_40 : rn_op 106 40 = some (.aload_n 0, 1, 0, 0, 0) := by decide +kernel
theorem op106_41 : rn_op 106 41 = some (.invokevirtual 235, 3, 107, 1, 10) := by decide +kernel
theorem op106_44 : rn_op 106 44 = some (.putfield 238, 3, 10, 10, 0) := by decide +kernel
theorem op106_47 : rn_op 106 47 = some (.aload_n 0, 1, 0, 0, 0) := by decide +kernel
theorem op106_48 : rn_op 106 48 = some (.dup, 1, 0, 0, 0) := by decide +kernel
theorem op106_49 : rn_op 106 49 = some (.getfield 81, 3, 10, 8, 0) := by decide +kernel
theorem op106_52 : rn_op 106 52 = some (.bipush 16, 2, 0, 0, 0) := by decide +kernel
theorem op106_54 : rn_op 106 54 = some (.ior, 1, 0, 0, 0) := by decide +kernel
theorem op106_55 : rn_op 106 55 = some (.putfield 81, 3, 10, 8, 0) := by decide +kernel
theorem op106_58 : rn_op 106 58 = some (.iload_n 1, 1, 0, 0, 0) := by decide +kernel
theorem op106_59 : rn_op 106 59 = some (.ifCond .ge 11, 3, 0, 0, 0) := by decide +kernel
theorem op106_62 : rn_op 106 62 = some (.aload_n 0, 1, 0, 0, 0) := by decide +kernel
theorem op106_63 : rn_op 106 63 = some (.getfield 238, 3, 10, 10, 0) := by decide +kernel
theorem op106_66 : rn_op 106 66 = some (.invokestatic 241, 3, 80, 1, 0) := by decide +kernel
theorem op106_69 : rn_op 106 69 = some (.ireturn, 1, 0, 0, 0) := by decide +kernel
theorem op106_70 : rn_op 106 70 = some (.iconst 0, 1, 0, 0, 0) := by decide +kernel
theorem op106_71 : rn_op 106 71 = some (.istore_n 2, 1, 0, 0, 0) := by decide +kernel
theorem op106_72 : rn_op 106 72 = some (.iconst 0, 1, 0, 0, 0) := by decide +kernel
theorem op106_73 : rn_op 106 73 = some (.istore_n 3, 1, 0, 0, 0) := by decide +kernel
theorem op106_74 : rn_op 106 74 = some (.iload_n 3, 1, 0, 0, 0) := by decide +kernel
theorem op106_75 : rn_op 106 75 = some (.bipush 30, 2, 0, 0, 0) := by decide +kernel
theorem op106_77 : rn_op 106 77 = some (.if_icmp .ge 30, 3, 0, 0, 0) := by decide +kernel
theorem op106_80 : rn_op 106 80 = some (.aload_n 0, 1, 0, 0, 0) := by decide +kernel
theorem op106_81 : rn_op 106 81 = some (.getfield 238, 3, 10, 10, 0) := by decide +kernel
theorem op106_84 : rn_op 106 84 = some (.iload_n 3, 1, 0, 0, 0) := by decide +kernel
theorem op106_85 : rn_op 106 85 = some (.ishr, 1, 0, 0, 0) := by decide +kernel
theorem op106_86 : rn_op 106 86 = some (.iconst 1, 1, 0, 0, 0) := by decide +kernel
theorem op106_87 : rn_op 106 87 = some (.iand, 1, 0, 0, 0) := by decide +kernel
theorem op106_88 : rn_op 106 88 = some (.ifCond .eq 13, 3, 0, 0, 0) := by decide +kernel
theorem op106_91 : rn_op 106 91 = some (.iload_n 2, 1, 0, 0, 0) := by decide +kernel
theorem op106_92 : rn_op 106 92 = some (.iload_n 1, 1, 0, 0, 0) := by decide +kernel
theorem op106_93 : rn_op 106 93 = some (.if_icmp .ne 5, 3, 0, 0, 0) := by decide +kernel
theorem op106_96 : rn_op 106 96 = some (.iload_n 3, 1, 0, 0, 0) := by decide +kernel
theorem op106_97 : rn_op 106 97 = some (.ireturn, 1, 0, 0, 0) := by decide +kernel
theorem op106_98 : rn_op 106 98 = some (.iinc 2 1, 3, 0, 0, 0) := by decide +kernel
theorem op106_101 : rn_op 106 101 = some (.iinc 3 1, 3, 0, 0, 0) := by decide +kernel
theorem op106_104 : rn_op 106 104 = some (.goto (-30), 3, 0, 0, 0) := by decide +kernel
theorem op106_107 : rn_op 106 107 = some (.bipush (-4), 2, 0, 0, 0) := by decide +kernel
theorem op106_109 : rn_op 106 109 = some (.ireturn, 1, 0, 0, 0) := by decide +kernel
def lt_others_l74 (a1 : Int32) : Nat → Int32 → Int32 → rn_Mem → Option ((Int32 × rn_Mem) ⊕ (rn_Mem))
  | 0, _, _, _ => none
  | n + 1, a2, a3, m =>
    if a3 < 30 then
      if (((m.1 0 10) >>> (a3 &&& 31)) &&& 1) = 0 then
        (some (a3 + 1)).bind fun (x21 : Int32) =>
        lt_others_l74 a1 n a2 x21 m
      else
        if a2 = a1 then
          some (.inl (a3, m))
        else
          (some (a2 + 1)).bind fun (x23 : Int32) =>
          (some (a3 + 1)).bind fun (x24 : Int32) =>
          lt_others_l74 a1 n x23 x24 m
    else
      some (.inr m)
def lt_others (n : Nat) (a1 : Int32) (m : rn_Mem) : Option (Int32 × rn_Mem) :=
  if a1 < (-1) then
    some ((-1), m)
  else
    if a1 < 30 then
      if (m.1 5 0) = 0 then
        some ((-2), m)
      else
        (show Option (rn_Mem) from
          if ((m.1 0 8) &&& 16) = 0 then
            (lt_findOthers n m).bind fun (r6, m5) =>
            (some (rm_i m5 0 10 r6)).bind fun (m8 : rn_Mem) =>
            (some (rm_i m8 0 8 ((m8.1 0 8) ||| 16))).bind fun (m9 : rn_Mem) =>
            some (m9)
          else
            some (m)).bind fun m12 =>
        if a1 < 0 then
          (ja_bitCount n (m12.1 0 10) m12).bind fun (r15, m14) =>
          some (r15, m14)
        else
          (lt_others_l74 a1 n 0 0 m12).bind fun q => match q with
          | .inl o => some o
          | .inr m25 =>
          some ((-4), m25)
    else
      some ((-1), m)
set_option maxHeartbeats 4000000 in
set_option maxRecDepth 20000 in
theorem lt_others_l74_ok (xs : List Int32) {d : Nat} (hd : 41 ≤ d + 1) {a1 : Int32} {r : Option Value} {τ : rn_H} {out : (Int32 × rn_Mem) ⊕ (rn_Mem)} (hl : ∀ (rO : Int32) (mO : rn_Mem), out = .inl (rO, mO) → r = (some (.int rO)) ∧ τ = (rn_SH, mO)) (hr : ∀ (mO : rn_Mem), out = .inr mO → ∀ (o0 o1 o2 o3 : Option Value), rn_R xs (d + 1) 106 107 [o0, o1, o2, o3] [] (rn_SH, mO) r τ) : ∀ (n : Nat) (a2 : Int32) (a3 : Int32) (m : rn_Mem), lt_others_l74 a1 n a2 a3 m = some out → rn_R xs (d + 1) 106 74 [some (.ref 0), some (.int a1), some (.int a2), some (.int a3)] [] (rn_SH, m) r τ := by
  intro n
  induction n with
  | zero =>
    intro _ _ _ h
    cases h
  | succ n ih =>
    intro a2 a3 m h
    unfold lt_others_l74 at h
    try dsimp only at h
    refine rx_p (L2 := [some (.ref 0), some (.int a1), some (.int a2), some (.int a3)]) (S2 := [.int a3]) (pc2 := 75) op106_74 rfl rfl ?_
    refine rx_bp (v := 30) (pc2 := 77) op106_75 (by decide) rfl ?_
    refine ry_ic_ge (tgt := 107) (pc2 := 80) op106_77 (by decide) (by decide) rfl (fun b17 => ?_) (fun b17 => ?_)
    · have h := (if_pos b17).symm.trans h
      refine rx_p (L2 := [some (.ref 0), some (.int a1), some (.int a2), some (.int a3)]) (S2 := [.ref 0]) (pc2 := 81) op106_80 rfl rfl ?_
      refine rx_gf (v := .int (m.1 0 10)) (pc2 := 84) op106_81 sp_0 rfl rfl rfl ?_
      refine rx_p (L2 := [some (.ref 0), some (.int a1), some (.int a2), some (.int a3)]) (S2 := [.int a3, .int (m.1 0 10)]) (pc2 := 85) op106_84 rfl rfl ?_
      refine rx_p (L2 := [some (.ref 0), some (.int a1), some (.int a2), some (.int a3)]) (S2 := [.int ((m.1 0 10) >>> (a3 &&& 31))]) (pc2 := 86) op106_85 rfl rfl ?_
      refine rx_ic (v := 1) (pc2 := 87) op106_86 (by decide) rfl ?_
      refine rx_p (L2 := [some (.ref 0), some (.int a1), some (.int a2), some (.int a3)]) (S2 := [.int (((m.1 0 10) >>> (a3 &&& 31)) &&& 1)]) (pc2 := 88) op106_87 rfl rfl ?_
      refine ry_if_eq (tgt := 101) (pc2 := 91) op106_88 (by decide) (by decide) rfl (fun b18 => ?_) (fun b18 => ?_)
      · have h := (if_pos b18).symm.trans h
        obtain ⟨x21, ex21, h⟩ := rq_bv h
        refine rx_inc (w := 1) (v := x21) (L2 := [some (.ref 0), some (.int a1), some (.int a2), some (.int x21)]) (pc2 := 104) op106_101 rfl (by decide) ex21 rfl rfl ?_
        refine ry_go (tgt := 74) op106_104 (by decide) (by decide) ?_
        exact ih _ _ _ h
      · have h := (if_neg b18).symm.trans h
        refine rx_p (L2 := [some (.ref 0), some (.int a1), some (.int a2), some (.int a3)]) (S2 := [.int a2]) (pc2 := 92) op106_91 rfl rfl ?_
        refine rx_p (L2 := [some (.ref 0), some (.int a1), some (.int a2), some (.int a3)]) (S2 := [.int a1, .int a2]) (pc2 := 93) op106_92 rfl rfl ?_
        refine ry_ic_ne (tgt := 98) (pc2 := 96) op106_93 (by decide) (by decide) rfl (fun b22 => ?_) (fun b22 => ?_)
        · have h := (if_pos b22).symm.trans h
          refine rx_p (L2 := [some (.ref 0), some (.int a1), some (.int a2), some (.int a3)]) (S2 := [.int a3]) (pc2 := 97) op106_96 rfl rfl ?_
          cases h
          obtain ⟨rfl, rfl⟩ := hl _ _ rfl
          exact ry_ri op106_97 ms_106 rfl
        · have h := (if_neg b22).symm.trans h
          obtain ⟨x23, ex23, h⟩ := rq_bv h
          refine rx_inc (w := 1) (v := x23) (L2 := [some (.ref 0), some (.int a1), some (.int x23), some (.int a3)]) (pc2 := 101) op106_98 rfl (by decide) ex23 rfl rfl ?_
          obtain ⟨x24, ex24, h⟩ := rq_bv h
          refine rx_inc (w := 1) (v := x24) (L2 := [some (.ref 0), some (.int a1), some (.int x23), some (.int x24)]) (pc2 := 104) op106_101 rfl (by decide) ex24 rfl rfl ?_
          refine ry_go (tgt := 74) op106_104 (by decide) (by decide) ?_
          exact ih _ _ _ h
    · have h := (if_neg b17).symm.trans h
      cases h
      exact hr _ rfl _ _ _ _
set_option maxHeartbeats 4000000 in
set_option maxRecDepth 20000 in
theorem lt_others_ok (xs : List Int32) {d : Nat} (hd : 41 ≤ d) {n : Nat} {a1 : Int32} {m mO : rn_Mem} {rO : Int32} (h : lt_others n a1 m = some (rO, mO)) : rn_R xs d 106 0 (rn_ent 4 [.ref 0, .int a1]) [] (rn_SH, m) (some (.int rO)) (rn_SH, mO) := by
  obtain ⟨d, rfl⟩ : ∃ e, d = e + 1 := ⟨d - 1, by omega⟩
  unfold lt_others at h
  show rn_R xs (d + 1) 106 0 [some (.ref 0), some (.int a1), none, none] [] (rn_SH, m) (some (.int rO)) (rn_SH, mO)
  refine rx_p (L2 := [some (.ref 0), some (.int a1), none, none]) (S2 := [.int a1]) (pc2 := 1) op106_0 rfl rfl ?_
  refine rx_ic (v := (-1)) (pc2 := 2) op106_1 (by decide) rfl ?_
  refine ry_ic_lt (tgt := 11) (pc2 := 5) op106_2 (by decide) (by decide) rfl (fun b1 => ?_) (fun b1 => ?_)
  · have h := (if_pos b1).symm.trans h
    refine rx_ic (v := (-1)) (pc2 := 12) op106_11 (by decide) rfl ?_
    obtain ⟨rfl, rfl⟩ := rq_ret h
    exact ry_ri op106_12 ms_106 rfl
  · have h := (if_neg b1).symm.trans h
    refine rx_p (L2 := [some (.ref 0), some (.int a1), none, none]) (S2 := [.int a1]) (pc2 := 6) op106_5 rfl rfl ?_
    refine rx_bp (v := 30) (pc2 := 8) op106_6 (by decide) rfl ?_
    refine ry_ic_lt (tgt := 13) (pc2 := 11) op106_8 (by decide) (by decide) rfl (fun b2 => ?_) (fun b2 => ?_)
    · have h := (if_pos b2).symm.trans h
      refine rx_p (L2 := [some (.ref 0), some (.int a1), none, none]) (S2 := [.ref 0]) (pc2 := 14) op106_13 rfl rfl ?_
      refine rx_gf (v := .ref 3) (pc2 := 17) op106_14 sp_0 rfl rfl rfl ?_
      refine rx_gf (v := .ref 5) (pc2 := 20) op106_17 sp_3 rfl rfl rfl ?_
      refine rx_gf (v := .int (m.1 5 0)) (pc2 := 23) op106_20 sp_5 rfl rfl rfl ?_
      refine ry_if_ne (tgt := 29) (pc2 := 26) op106_23 (by decide) (by decide) rfl (fun b3 => ?_) (fun b3 => ?_)
      · have h := (if_pos b3).symm.trans h
        refine rx_bp (v := (-2)) (pc2 := 28) op106_26 (by decide) rfl ?_
        obtain ⟨rfl, rfl⟩ := rq_ret h
        exact ry_ri op106_28 ms_106 rfl
      · have h := (if_neg b3).symm.trans h
        refine rx_p (L2 := [some (.ref 0), some (.int a1), none, none]) (S2 := [.ref 0]) (pc2 := 30) op106_29 rfl rfl ?_
        refine rx_gf (v := .int (m.1 0 8)) (pc2 := 33) op106_30 sp_0 rfl rfl rfl ?_
        refine rx_bp (v := 16) (pc2 := 35) op106_33 (by decide) rfl ?_
        refine rx_p (L2 := [some (.ref 0), some (.int a1), none, none]) (S2 := [.int ((m.1 0 8) &&& 16)]) (pc2 := 36) op106_35 rfl rfl ?_
        obtain ⟨m12, gc31, h⟩ := rq_bind h
        try dsimp only at h
        have c31 : ∀ (o10 o11 : Option Value), rn_R xs (d + 1) 106 58 [some (.ref 0), some (.int a1), o10, o11] [] (rn_SH, m12) (some (.int rO)) (rn_SH, mO) := by
          intro o10 o11
          refine rx_p (L2 := [some (.ref 0), some (.int a1), o10, o11]) (S2 := [.int a1]) (pc2 := 59) op106_58 rfl rfl ?_
          refine ry_if_ge (tgt := 70) (pc2 := 62) op106_59 (by decide) (by decide) rfl (fun b13 => ?_) (fun b13 => ?_)
          · have h := (if_pos b13).symm.trans h
            refine rx_p (L2 := [some (.ref 0), some (.int a1), o10, o11]) (S2 := [.ref 0]) (pc2 := 63) op106_62 rfl rfl ?_
            refine rx_gf (v := .int (m12.1 0 10)) (pc2 := 66) op106_63 sp_0 rfl rfl rfl ?_
            obtain ⟨⟨r15, m14⟩, f16, h⟩ := rq_bind h
            try dsimp only at h
            refine ry_is (vs := [.int (m12.1 0 10)]) (T := []) (pc2 := 69) op106_66 (by decide) ms_80 (by decide) rfl rfl (Nat.le_of_ble_eq_true rfl) (Nat.le_of_ble_eq_true rfl) (ja_bitCount_ok xs (by omega)  f16) rfl ?_
            show rn_R _ _ _ _ _ [.int r15] _ _ _
            obtain ⟨rfl, rfl⟩ := rq_ret h
            exact ry_ri op106_69 ms_106 rfl
          · have h := (if_neg b13).symm.trans h
            refine rx_ic (v := 0) (pc2 := 71) op106_70 (by decide) rfl ?_
            refine rx_s (L2 := [some (.ref 0), some (.int a1), some (.int 0), o11]) (pc2 := 72) op106_71 rfl rfl rfl ?_
            refine rx_ic (v := 0) (pc2 := 73) op106_72 (by decide) rfl ?_
            refine rx_s (L2 := [some (.ref 0), some (.int a1), some (.int 0), some (.int 0)]) (pc2 := 74) op106_73 rfl rfl rfl ?_
            obtain ⟨wf30, f30, h⟩ := rq_bind h
            refine lt_others_l74_ok xs hd (fun v0 m0 eq => ?_) (fun m25 eq => ?_) _ _ _ _  f30
            · subst eq
              try dsimp only at h
              cases h
              exact ⟨rfl, rfl⟩
            · subst eq
              try dsimp only at h
              intro o26 o27 o28 o29
              refine rx_bp (v := (-4)) (pc2 := 109) op106_107 (by decide) rfl ?_
              obtain ⟨rfl, rfl⟩ := rq_ret h
              exact ry_ri op106_109 ms_106 rfl
        refine ry_if_ne (tgt := 58) (pc2 := 39) op106_36 (by decide) (by decide) rfl (fun b4 => ?_) (fun b4 => ?_)
        · have gc31 := (if_pos b4).symm.trans gc31
          refine rx_p (L2 := [some (.ref 0), some (.int a1), none, none]) (S2 := [.ref 0]) (pc2 := 40) op106_39 rfl rfl ?_
          refine rx_p (L2 := [some (.ref 0), some (.int a1), none, none]) (S2 := [.ref 0, .ref 0]) (pc2 := 41) op106_40 rfl rfl ?_
          obtain ⟨⟨r6, m5⟩, f7, gc31⟩ := rq_bind gc31
          try dsimp only at gc31
          refine ry_iv (p := 0) (vs := []) (T := [.ref 0]) (pc2 := 44) op106_41 ms_107 (by decide) rfl rfl (Nat.le_of_ble_eq_true rfl) (Nat.le_of_ble_eq_true rfl) sp_0 (lt_findOthers_ok xs (by omega)  f7) rfl ?_
          show rn_R _ _ _ _ _ [.int r6, .ref 0] _ _ _
          obtain ⟨m8, em8, gc31⟩ := rq_bv gc31
          refine rx_pf (m2 := m8) (pc2 := 47) op106_44 sp_0 rfl em8 rfl ?_
          refine rx_p (L2 := [some (.ref 0), some (.int a1), none, none]) (S2 := [.ref 0]) (pc2 := 48) op106_47 rfl rfl ?_
          refine rx_p (L2 := [some (.ref 0), some (.int a1), none, none]) (S2 := [.ref 0, .ref 0]) (pc2 := 49) op106_48 rfl rfl ?_
          refine rx_gf (v := .int (m8.1 0 8)) (pc2 := 52) op106_49 sp_0 rfl rfl rfl ?_
          refine rx_bp (v := 16) (pc2 := 54) op106_52 (by decide) rfl ?_
          refine rx_p (L2 := [some (.ref 0), some (.int a1), none, none]) (S2 := [.int ((m8.1 0 8) ||| 16), .ref 0]) (pc2 := 55) op106_54 rfl rfl ?_
          obtain ⟨m9, em9, gc31⟩ := rq_bv gc31
          refine rx_pf (m2 := m9) (pc2 := 58) op106_55 sp_0 rfl em9 rfl ?_
          cases gc31
          exact c31 _ _
        · have gc31 := (if_neg b4).symm.trans gc31
          cases gc31
          exact c31 _ _
    · have h := (if_neg b2).symm.trans h
      refine rx_ic (v := (-1)) (pc2 := 12) op106_11 (by decide) rfl ?_
      obtain ⟨rfl, rfl⟩ := rq_ret h
      exact ry_ri op106_12 ms_106 rfl
