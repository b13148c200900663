/-! se_lay -/
theorem op77_0 : rn_op 77 0 = some (.iload_n 1, 1, 0, 0, 0) := by decide +kernel
theorem op77_1 : rn_op 77 1 = some (.ifCond .ge 4, 3, 0, 0, 0) := by decide +kernel
theorem op77_4 : rn_op 77 4 = some (.return_, 1, 0, 0, 0) := by decide +kernel
theorem op77_5 : rn_op 77 5 = some (.iconst 0, 1, 0, 0, 0) := by decide +kernel
theorem op77_6 : rn_op 77 6 = some (.istore 7, 2, 0, 0, 0) := by decide +kernel
theorem op77_8 : rn_op 77 8 = some (.iload 7, 2, 0, 0, 0) := by decide +kernel
theorem op77_10 : rn_op 77 10 = some (.aload_n 0, 1, 0, 0, 0) := by decide +kernel
theorem op77_11 : rn_op 77 11 = some (.getfield 12, 3, 4, 0, 3) := by decide +kernel
theorem op77_14 : rn_op 77 14 = some (.getfield 101, 3, 1, 1, 0) := by decide +kernel
theorem op77_17 : rn_op 77 17 = some (.if_icmp .ge 90, 3, 0, 0, 0) := by decide +kernel
theorem op77_20 : rn_op 77 20 = some (.aload_n 0, 1, 0, 0, 0) := by decide +kernel
theorem op77_21 : rn_op 77 21 = some (.getfield 42, 3, 4, 5, 3) := by decide +kernel
theorem op77_24 : rn_op 77 24 = some (.iload 7, 2, 0, 0, 0) := by decide +kernel
theorem op77_26 : rn_op 77 26 = some (.iaload, 1, 0, 0, 0) := by decide +kernel
theorem op77_27 : rn_op 77 27 = some (.ifCond .le 74, 3, 0, 0, 0) := by decide +kernel
theorem op77_30 : rn_op 77 30 = some (.aload_n 0, 1, 0, 0, 0) := by decide +kernel
theorem op77_31 : rn_op 77 31 = some (.getfield 12, 3, 4, 0, 3) := by decide +kernel
theorem op77_34 : rn_op 77 34 = some (.getfield 156, 3, 1, 6, 0) := by decide +kernel
theorem op77_37 : rn_op 77 37 = some (.iconst 1, 1, 0, 0, 0) := by decide +kernel
theorem op77_38 : rn_op 77 38 = some (.if_icmp .eq 13, 3, 0, 0, 0) := by decide +kernel
theorem op77_41 : rn_op 77 41 = some (.iload_n 2, 1, 0, 0, 0) := by decide +kernel
theorem op77_42 : rn_op 77 42 = some (.ifCond .lt 9, 3, 0, 0, 0) := by decide +kernel
theorem op77_45 : rn_op 77 45 = some (.iload 7, 2, 0, 0, 0) := by decide +kernel
theorem op77_47 : rn_op 77 47 = some (.iload_n 2, 1, 0, 0, 0) := by decide +kernel
theorem op77_48 : rn_op 77 48 = some (.if_icmp .ne 53, 3, 0, 0, 0) := by decide +kernel
theorem op77_51 : rn_op 77 51 = some (.aload_n 0, 1, 0, 0, 0) := by decide +kernel
theorem op77_52 : rn_op 77 52 = some (.getfield 42, 3, 4, 5, 3) := by decide +kernel
theorem op77_55 : rn_op 77 55 = some (.iload 7, 2, 0, 0, 0) := by decide +kernel
theorem op77_57 : rn_op 77 57 = some (.dup2, 1, 0, 0, 0) := by decide +kernel
theorem op77_58 : rn_op 77 58 = some (.iaload, 1, 0, 0, 0) := by decide +kernel
theorem op77_59 : rn_op 77 59 = some (.iconst 1, 1, 0, 0, 0) := by decide +kernel
theorem op77_60 : rn_op 77 60 = some (.isub, 1, 0, 0, 0) := by decide +kernel
theorem op77_61 : rn_op 77 61 = some (.iastore, 1, 0, 0, 0) := by decide +kernel
theorem op77_62 : rn_op 77 62 = some (.aload_n 0, 1, 0, 0, 0) := by decide +kernel
theorem op77_63 : rn_op 77 63 = some (.iload_n 1, 1, 0, 0, 0) := by decide +kernel
theorem op77_64 : rn_op 77 64 = some (.aload_n 0, 1, 0, 0, 0) := by decide +kernel
theorem op77_65 : rn_op 77 65 = some (.getfield 38, 3, 4, 4, 3) := by decide +kernel
theorem op77_68 : rn_op 77 68 = some (.iload 7, 2, 0, 0, 0) := by decide +kernel
theorem op77_70 : rn_op 77 70 = some (.iaload, 1, 0, 0, 0) := by decide +kernel
theorem op77_71 : rn_op 77 71 = some (.aload_n 0, 1, 0, 0, 0) := by decide +kernel
theorem op77_72 : rn_op 77 72 = some (.getfield 42, 3, 4, 5, 3) := by decide +kernel
theorem op77_75 : rn_op 77 75 = some (.iload 7, 2, 0, 0, 0) := by decide +kernel
theorem op77_77 : rn_op 77 77 = some (.iaload, 1, 0, 0, 0) := by decide +kernel
theorem op77_78 : rn_op 77 78 = some (.iadd, 1, 0, 0, 0) := by decide +kernel
theorem op77_79 : rn_op 77 79 = some (.iload_n 2, 1, 0, 0, 0) := by decide +kernel
theorem op77_80 : rn_op 77 80 = some (.iload_n 3, 1, 0, 0, 0) := by decide +kernel
theorem op77_81 : rn_op 77 81 = some (.iload 4, 2, 0, 0, 0) := by decide +kernel
theorem op77_83 : rn_op 77 83 = some (.iload 5, 2, 0, 0, 0) := by decide +kernel
theorem op77_85 : rn_op 77 85 = some (.iload 6, 2, 0, 0, 0) := by decide +kernel
theorem op77_87 : rn_op 77 87 = some (.invokevirtual 196, 3, 78, 8, 4) := by decide +kernel
theorem op77_90 : rn_op 77 90 = some (.aload_n 0, 1, 0, 0, 0) := by decide +kernel
theorem op77_91 : rn_op 77 91 = some (.getfield 42, 3, 4, 5, 3) := by decide +kernel
theorem op77_94 : rn_op 77 94 = some (.iload 7, 2, 0, 0, 0) := by decide +kernel
theorem op77_96 : rn_op 77 96 = some (.dup2, 1, 0, 0, 0) := by decide +kernel
theorem op77_97 : rn_op 77 97 = some (.iaload, 1, 0, 0, 0) := by decide +kernel
theorem op77_98 : rn_op 77 98 = some (.iconst 1, 1, 0, 0, 0) := by decide +kernel
theorem op77_99 : rn_op 77 99 = some (.iadd, 1, 0, 0, 0) := by decide +kernel
theorem op77_100 : rn_op 77 100 = some (.iastore, 1, 0, 0, 0) := by decide +kernel
theorem op77_101 : rn_op 77 101 = some (.iinc 7 1, 3, 0, 0, 0) := by decide +kernel
theorem op77_104 : rn_op 77 104 = some (.goto (-96), 3, 0, 0, 0) := by decide +kernel
theorem op77_107 : rn_op 77 107 = some (.return_, 1, 0, 0, 0) := by decide +kernel
def se_lay_l8 (rec : Int32 → Int32 → Int32 → Int32 → Int32 → Int32 → rn_Mem → Option (rn_Mem)) (a1 : Int32) (a2 : Int32) (a3 : Int32) (a4 : Int32) (a5 : Int32) (a6 : Int32) : Nat → Int32 → rn_Mem → Option (rn_Mem)
  | 0, _, _ => none
  | n + 1, a7, m =>
    if a7 < (m.1 52 1) then
      if rn_in a7 4 = true then
        (show Option (rn_Mem) from
          if 0 < (m.1 64 a7.toNatClampNeg) then
            if (m.1 52 6) = 1 then
              if rn_in a7 4 = true then
                if rn_in a7 4 = true then
                  (some (rm_i m 64 a7.toNatClampNeg ((m.1 64 a7.toNatClampNeg) - 1))).bind fun (m7 : rn_Mem) =>
                  if rn_in a7 4 = true then
                    if rn_in a7 4 = true then
                      (se_layTrick rec n a1 ((m7.1 63 a7.toNatClampNeg) + (m7.1 64 a7.toNatClampNeg)) a2 a3 a4 a5 a6 m7).bind fun m11 =>
                      if rn_in a7 4 = true then
                        if rn_in a7 4 = true then
                          (some (rm_i m11 64 a7.toNatClampNeg ((m11.1 64 a7.toNatClampNeg) + 1))).bind fun (m14 : rn_Mem) =>
                          some (m14)
                        else none
                      else none
                    else none
                  else none
                else none
              else none
            else
              if a2 < 0 then
                if rn_in a7 4 = true then
                  if rn_in a7 4 = true then
                    (some (rm_i m 64 a7.toNatClampNeg ((m.1 64 a7.toNatClampNeg) - 1))).bind fun (m18 : rn_Mem) =>
                    if rn_in a7 4 = true then
                      if rn_in a7 4 = true then
                        (se_layTrick rec n a1 ((m18.1 63 a7.toNatClampNeg) + (m18.1 64 a7.toNatClampNeg)) a2 a3 a4 a5 a6 m18).bind fun m22 =>
                        if rn_in a7 4 = true then
                          if rn_in a7 4 = true then
                            (some (rm_i m22 64 a7.toNatClampNeg ((m22.1 64 a7.toNatClampNeg) + 1))).bind fun (m25 : rn_Mem) =>
                            some (m25)
                          else none
                        else none
                      else none
                    else none
                  else none
                else none
              else
                if a7 = a2 then
                  if rn_in a7 4 = true then
                    if rn_in a7 4 = true then
                      (some (rm_i m 64 a7.toNatClampNeg ((m.1 64 a7.toNatClampNeg) - 1))).bind fun (m29 : rn_Mem) =>
                      if rn_in a7 4 = true then
                        if rn_in a7 4 = true then
                          (se_layTrick rec n a1 ((m29.1 63 a7.toNatClampNeg) + (m29.1 64 a7.toNatClampNeg)) a2 a3 a4 a5 a6 m29).bind fun m33 =>
                          if rn_in a7 4 = true then
                            if rn_in a7 4 = true then
                              (some (rm_i m33 64 a7.toNatClampNeg ((m33.1 64 a7.toNatClampNeg) + 1))).bind fun (m36 : rn_Mem) =>
                              some (m36)
                            else none
                          else none
                        else none
                      else none
                    else none
                  else none
                else
                  some (m)
          else
            some (m)).bind fun m38 =>
        (some (a7 + 1)).bind fun (x39 : Int32) =>
        se_lay_l8 rec a1 a2 a3 a4 a5 a6 n x39 m38
      else none
    else
      some m
def se_lay_1 (rec : Int32 → Int32 → Int32 → Int32 → Int32 → Int32 → rn_Mem → Option (rn_Mem)) (n : Nat) (a1 : Int32) (a2 : Int32) (a3 : Int32) (a4 : Int32) (a5 : Int32) (a6 : Int32) (m : rn_Mem) : Option (rn_Mem) :=
  if a1 < 0 then
    some m
  else
    (se_lay_l8 rec a1 a2 a3 a4 a5 a6 n 0 m).bind fun m41 =>
    some m41
def se_lay (n : Nat) : Nat → Int32 → Int32 → Int32 → Int32 → Int32 → Int32 → rn_Mem → Option (rn_Mem)
  | 0 => fun _ _ _ _ _ _ _ => none
  | k + 1 => se_lay_1 (se_lay n k) n
set_option maxHeartbeats 4000000 in
set_option maxRecDepth 20000 in
theorem se_lay_l8_ok (xs : List Int32) {d : Nat} (hd : 4 ≤ d) {rec : Int32 → Int32 → Int32 → Int32 → Int32 → Int32 → rn_Mem → Option (rn_Mem)} (hrec : ∀ {a1 : Int32} {a2 : Int32} {a3 : Int32} {a4 : Int32} {a5 : Int32} {a6 : Int32} {mI mO : rn_Mem} , rec a1 a2 a3 a4 a5 a6 mI = some mO → rn_R xs d 77 0 (rn_ent 8 [.ref 51, .int a1, .int a2, .int a3, .int a4, .int a5, .int a6]) [] (rn_SH, mI) none (rn_SH, mO)) {a1 : Int32} {a2 : Int32} {a3 : Int32} {a4 : Int32} {a5 : Int32} {a6 : Int32} {r : Option Value} {τ : rn_H} {out : rn_Mem} (hr : ∀ (mO : rn_Mem), out = mO → ∀ (o0 o1 o2 o3 o4 o5 o6 o7 : Option Value), rn_R xs (d + 2) 77 107 [o0, o1, o2, o3, o4, o5, o6, o7] [] (rn_SH, mO) r τ) : ∀ (n : Nat) (a7 : Int32) (m : rn_Mem), se_lay_l8 rec a1 a2 a3 a4 a5 a6 n a7 m = some out → rn_R xs (d + 2) 77 8 [some (.ref 51), some (.int a1), some (.int a2), some (.int a3), some (.int a4), some (.int a5), some (.int a6), some (.int a7)] [] (rn_SH, m) r τ := by
  intro n
  induction n with
  | zero =>
    intro _ _ h
    cases h
  | succ n ih =>
    intro a7 m h
    unfold se_lay_l8 at h
    try dsimp only at h
    refine rx_p (L2 := [some (.ref 51), some (.int a1), some (.int a2), some (.int a3), some (.int a4), some (.int a5), some (.int a6), some (.int a7)]) (S2 := [.int a7]) (pc2 := 10) op77_8 rfl rfl ?_
    refine rx_p (L2 := [some (.ref 51), some (.int a1), some (.int a2), some (.int a3), some (.int a4), some (.int a5), some (.int a6), some (.int a7)]) (S2 := [.ref 51, .int a7]) (pc2 := 11) op77_10 rfl rfl ?_
    refine rx_gf (v := .ref 52) (pc2 := 14) op77_11 sp_51 rfl rfl rfl ?_
    refine rx_gf (v := .int (m.1 52 1)) (pc2 := 17) op77_14 sp_52 rfl rfl rfl ?_
    refine ry_ic_ge (tgt := 107) (pc2 := 20) op77_17 (by decide) (by decide) rfl (fun b2 => ?_) (fun b2 => ?_)
    · have h := (if_pos b2).symm.trans h
      refine rx_p (L2 := [some (.ref 51), some (.int a1), some (.int a2), some (.int a3), some (.int a4), some (.int a5), some (.int a6), some (.int a7)]) (S2 := [.ref 51]) (pc2 := 21) op77_20 rfl rfl ?_
      refine rx_gf (v := .ref 64) (pc2 := 24) op77_21 sp_51 rfl rfl rfl ?_
      refine rx_p (L2 := [some (.ref 51), some (.int a1), some (.int a2), some (.int a3), some (.int a4), some (.int a5), some (.int a6), some (.int a7)]) (S2 := [.int a7, .ref 64]) (pc2 := 26) op77_24 rfl rfl ?_
      obtain ⟨k3, h⟩ := rq_chk h
      refine rx_ia (pc2 := 27) op77_26 (rn_shlt sp_64) sp_64 k3 rfl rfl ?_
      obtain ⟨m38, gc40, h⟩ := rq_bind h
      try dsimp only at h
      have c40 : ∀ (_ : Unit), rn_R xs (d + 2) 77 101 [some (.ref 51), some (.int a1), some (.int a2), some (.int a3), some (.int a4), some (.int a5), some (.int a6), some (.int a7)] [] (rn_SH, m38) r τ := by
        intro _
        obtain ⟨x39, ex39, h⟩ := rq_bv h
        refine rx_inc (w := 1) (v := x39) (L2 := [some (.ref 51), some (.int a1), some (.int a2), some (.int a3), some (.int a4), some (.int a5), some (.int a6), some (.int x39)]) (pc2 := 104) op77_101 rfl (by decide) ex39 rfl rfl ?_
        refine ry_go (tgt := 8) op77_104 (by decide) (by decide) ?_
        exact ih _ _ h
      refine ry_if_le (tgt := 101) (pc2 := 30) op77_27 (by decide) (by decide) rfl (fun b4 => ?_) (fun b4 => ?_)
      · have gc40 := (if_pos b4).symm.trans gc40
        refine rx_p (L2 := [some (.ref 51), some (.int a1), some (.int a2), some (.int a3), some (.int a4), some (.int a5), some (.int a6), some (.int a7)]) (S2 := [.ref 51]) (pc2 := 31) op77_30 rfl rfl ?_
        refine rx_gf (v := .ref 52) (pc2 := 34) op77_31 sp_51 rfl rfl rfl ?_
        refine rx_gf (v := .int (m.1 52 6)) (pc2 := 37) op77_34 sp_52 rfl rfl rfl ?_
        refine rx_ic (v := 1) (pc2 := 38) op77_37 (by decide) rfl ?_
        refine ry_ic_eq (tgt := 51) (pc2 := 41) op77_38 (by decide) (by decide) rfl (fun b5 => ?_) (fun b5 => ?_)
        · have gc40 := (if_pos b5).symm.trans gc40
          refine rx_p (L2 := [some (.ref 51), some (.int a1), some (.int a2), some (.int a3), some (.int a4), some (.int a5), some (.int a6), some (.int a7)]) (S2 := [.ref 51]) (pc2 := 52) op77_51 rfl rfl ?_
          refine rx_gf (v := .ref 64) (pc2 := 55) op77_52 sp_51 rfl rfl rfl ?_
          refine rx_p (L2 := [some (.ref 51), some (.int a1), some (.int a2), some (.int a3), some (.int a4), some (.int a5), some (.int a6), some (.int a7)]) (S2 := [.int a7, .ref 64]) (pc2 := 57) op77_55 rfl rfl ?_
          refine rx_p (L2 := [some (.ref 51), some (.int a1), some (.int a2), some (.int a3), some (.int a4), some (.int a5), some (.int a6), some (.int a7)]) (S2 := [.int a7, .ref 64, .int a7, .ref 64]) (pc2 := 58) op77_57 rfl rfl ?_
          obtain ⟨k6, gc40⟩ := rq_chk gc40
          refine rx_ia (pc2 := 59) op77_58 (rn_shlt sp_64) sp_64 k6 rfl rfl ?_
          refine rx_ic (v := 1) (pc2 := 60) op77_59 (by decide) rfl ?_
          refine rx_p (L2 := [some (.ref 51), some (.int a1), some (.int a2), some (.int a3), some (.int a4), some (.int a5), some (.int a6), some (.int a7)]) (S2 := [.int ((m.1 64 a7.toNatClampNeg) - 1), .int a7, .ref 64]) (pc2 := 61) op77_60 rfl rfl ?_
          obtain ⟨k8, gc40⟩ := rq_chk gc40
          obtain ⟨m7, em7, gc40⟩ := rq_bv gc40
          refine rx_is (m2 := m7) (pc2 := 62) op77_61 sp_64 k8 rfl em7 rfl ?_
          refine rx_p (L2 := [some (.ref 51), some (.int a1), some (.int a2), some (.int a3), some (.int a4), some (.int a5), some (.int a6), some (.int a7)]) (S2 := [.ref 51]) (pc2 := 63) op77_62 rfl rfl ?_
          refine rx_p (L2 := [some (.ref 51), some (.int a1), some (.int a2), some (.int a3), some (.int a4), some (.int a5), some (.int a6), some (.int a7)]) (S2 := [.int a1, .ref 51]) (pc2 := 64) op77_63 rfl rfl ?_
          refine rx_p (L2 := [some (.ref 51), some (.int a1), some (.int a2), some (.int a3), some (.int a4), some (.int a5), some (.int a6), some (.int a7)]) (S2 := [.ref 51, .int a1, .ref 51]) (pc2 := 65) op77_64 rfl rfl ?_
          refine rx_gf (v := .ref 63) (pc2 := 68) op77_65 sp_51 rfl rfl rfl ?_
          refine rx_p (L2 := [some (.ref 51), some (.int a1), some (.int a2), some (.int a3), some (.int a4), some (.int a5), some (.int a6), some (.int a7)]) (S2 := [.int a7, .ref 63, .int a1, .ref 51]) (pc2 := 70) op77_68 rfl rfl ?_
          obtain ⟨k9, gc40⟩ := rq_chk gc40
          refine rx_ia (pc2 := 71) op77_70 (rn_shlt sp_63) sp_63 k9 rfl rfl ?_
          refine rx_p (L2 := [some (.ref 51), some (.int a1), some (.int a2), some (.int a3), some (.int a4), some (.int a5), some (.int a6), some (.int a7)]) (S2 := [.ref 51, .int (m7.1 63 a7.toNatClampNeg), .int a1, .ref 51]) (pc2 := 72) op77_71 rfl rfl ?_
          refine rx_gf (v := .ref 64) (pc2 := 75) op77_72 sp_51 rfl rfl rfl ?_
          refine rx_p (L2 := [some (.ref 51), some (.int a1), some (.int a2), some (.int a3), some (.int a4), some (.int a5), some (.int a6), some (.int a7)]) (S2 := [.int a7, .ref 64, .int (m7.1 63 a7.toNatClampNeg), .int a1, .ref 51]) (pc2 := 77) op77_75 rfl rfl ?_
          obtain ⟨k10, gc40⟩ := rq_chk gc40
          refine rx_ia (pc2 := 78) op77_77 (rn_shlt sp_64) sp_64 k10 rfl rfl ?_
          refine rx_p (L2 := [some (.ref 51), some (.int a1), some (.int a2), some (.int a3), some (.int a4), some (.int a5), some (.int a6), some (.int a7)]) (S2 := [.int ((m7.1 63 a7.toNatClampNeg) + (m7.1 64 a7.toNatClampNeg)), .int a1, .ref 51]) (pc2 := 79) op77_78 rfl rfl ?_
          refine rx_p (L2 := [some (.ref 51), some (.int a1), some (.int a2), some (.int a3), some (.int a4), some (.int a5), some (.int a6), some (.int a7)]) (S2 := [.int a2, .int ((m7.1 63 a7.toNatClampNeg) + (m7.1 64 a7.toNatClampNeg)), .int a1, .ref 51]) (pc2 := 80) op77_79 rfl rfl ?_
          refine rx_p (L2 := [some (.ref 51), some (.int a1), some (.int a2), some (.int a3), some (.int a4), some (.int a5), some (.int a6), some (.int a7)]) (S2 := [.int a3, .int a2, .int ((m7.1 63 a7.toNatClampNeg) + (m7.1 64 a7.toNatClampNeg)), .int a1, .ref 51]) (pc2 := 81) op77_80 rfl rfl ?_
          refine rx_p (L2 := [some (.ref 51), some (.int a1), some (.int a2), some (.int a3), some (.int a4), some (.int a5), some (.int a6), some (.int a7)]) (S2 := [.int a4, .int a3, .int a2, .int ((m7.1 63 a7.toNatClampNeg) + (m7.1 64 a7.toNatClampNeg)), .int a1, .ref 51]) (pc2 := 83) op77_81 rfl rfl ?_
          refine rx_p (L2 := [some (.ref 51), some (.int a1), some (.int a2), some (.int a3), some (.int a4), some (.int a5), some (.int a6), some (.int a7)]) (S2 := [.int a5, .int a4, .int a3, .int a2, .int ((m7.1 63 a7.toNatClampNeg) + (m7.1 64 a7.toNatClampNeg)), .int a1, .ref 51]) (pc2 := 85) op77_83 rfl rfl ?_
          refine rx_p (L2 := [some (.ref 51), some (.int a1), some (.int a2), some (.int a3), some (.int a4), some (.int a5), some (.int a6), some (.int a7)]) (S2 := [.int a6, .int a5, .int a4, .int a3, .int a2, .int ((m7.1 63 a7.toNatClampNeg) + (m7.1 64 a7.toNatClampNeg)), .int a1, .ref 51]) (pc2 := 87) op77_85 rfl rfl ?_
          obtain ⟨m11, f12, gc40⟩ := rq_bind gc40
          try dsimp only at gc40
          refine ry_iv (p := 51) (vs := [.int a1, .int ((m7.1 63 a7.toNatClampNeg) + (m7.1 64 a7.toNatClampNeg)), .int a2, .int a3, .int a4, .int a5, .int a6]) (T := []) (pc2 := 90) op77_87 ms_78 (by decide) rfl rfl (Nat.le_of_ble_eq_true rfl) (Nat.le_of_ble_eq_true rfl) sp_51 (se_layTrick_ok xs hd hrec  f12) rfl ?_
          show rn_R _ _ _ _ _ [] _ _ _
          refine rx_p (L2 := [some (.ref 51), some (.int a1), some (.int a2), some (.int a3), some (.int a4), some (.int a5), some (.int a6), some (.int a7)]) (S2 := [.ref 51]) (pc2 := 91) op77_90 rfl rfl ?_
          refine rx_gf (v := .ref 64) (pc2 := 94) op77_91 sp_51 rfl rfl rfl ?_
          refine rx_p (L2 := [some (.ref 51), some (.int a1), some (.int a2), some (.int a3), some (.int a4), some (.int a5), some (.int a6), some (.int a7)]) (S2 := [.int a7, .ref 64]) (pc2 := 96) op77_94 rfl rfl ?_
          refine rx_p (L2 := [some (.ref 51), some (.int a1), some (.int a2), some (.int a3), some (.int a4), some (.int a5), some (.int a6), some (.int a7)]) (S2 := [.int a7, .ref 64, .int a7, .ref 64]) (pc2 := 97) op77_96 rfl rfl ?_
          obtain ⟨k13, gc40⟩ := rq_chk gc40
          refine rx_ia (pc2 := 98) op77_97 (rn_shlt sp_64) sp_64 k13 rfl rfl ?_
          refine rx_ic (v := 1) (pc2 := 99) op77_98 (by decide) rfl ?_
          refine rx_p (L2 := [some (.ref 51), some (.int a1), some (.int a2), some (.int a3), some (.int a4), some (.int a5), some (.int a6), some (.int a7)]) (S2 := [.int ((m11.1 64 a7.toNatClampNeg) + 1), .int a7, .ref 64]) (pc2 := 100) op77_99 rfl rfl ?_
          obtain ⟨k15, gc40⟩ := rq_chk gc40
          obtain ⟨m14, em14, gc40⟩ := rq_bv gc40
          refine rx_is (m2 := m14) (pc2 := 101) op77_100 sp_64 k15 rfl em14 rfl ?_
          cases gc40
          exact c40 ()
        · have gc40 := (if_neg b5).symm.trans gc40
          refine rx_p (L2 := [some (.ref 51), some (.int a1), some (.int a2), some (.int a3), some (.int a4), some (.int a5), some (.int a6), some (.int a7)]) (S2 := [.int a2]) (pc2 := 42) op77_41 rfl rfl ?_
          refine ry_if_lt (tgt := 51) (pc2 := 45) op77_42 (by decide) (by decide) rfl (fun b16 => ?_) (fun b16 => ?_)
          · have gc40 := (if_pos b16).symm.trans gc40
            refine rx_p (L2 := [some (.ref 51), some (.int a1), some (.int a2), some (.int a3), some (.int a4), some (.int a5), some (.int a6), some (.int a7)]) (S2 := [.ref 51]) (pc2 := 52) op77_51 rfl rfl ?_
            refine rx_gf (v := .ref 64) (pc2 := 55) op77_52 sp_51 rfl rfl rfl ?_
            refine rx_p (L2 := [some (.ref 51), some (.int a1), some (.int a2), some (.int a3), some (.int a4), some (.int a5), some (.int a6), some (.int a7)]) (S2 := [.int a7, .ref 64]) (pc2 := 57) op77_55 rfl rfl ?_
            refine rx_p (L2 := [some (.ref 51), some (.int a1), some (.int a2), some (.int a3), some (.int a4), some (.int a5), some (.int a6), some (.int a7)]) (S2 := [.int a7, .ref 64, .int a7, .ref 64]) (pc2 := 58) op77_57 rfl rfl ?_
            obtain ⟨k17, gc40⟩ := rq_chk gc40
            refine rx_ia (pc2 := 59) op77_58 (rn_shlt sp_64) sp_64 k17 rfl rfl ?_
            refine rx_ic (v := 1) (pc2 := 60) op77_59 (by decide) rfl ?_
            refine rx_p (L2 := [some (.ref 51), some (.int a1), some (.int a2), some (.int a3), some (.int a4), some (.int a5), some (.int a6), some (.int a7)]) (S2 := [.int ((m.1 64 a7.toNatClampNeg) - 1), .int a7, .ref 64]) (pc2 := 61) op77_60 rfl rfl ?_
            obtain ⟨k19, gc40⟩ := rq_chk gc40
            obtain ⟨m18, em18, gc40⟩ := rq_bv gc40
            refine rx_is (m2 := m18) (pc2 := 62) op77_61 sp_64 k19 rfl em18 rfl ?_
            refine rx_p (L2 := [some (.ref 51), some (.int a1), some (.int a2), some (.int a3), some (.int a4), some (.int a5), some (.int a6), some (.int a7)]) (S2 := [.ref 51]) (pc2 := 63) op77_62 rfl rfl ?_
            refine rx_p (L2 := [some (.ref 51), some (.int a1), some (.int a2), some (.int a3), some (.int a4), some (.int a5), some (.int a6), some (.int a7)]) (S2 := [.int a1, .ref 51]) (pc2 := 64) op77_63 rfl rfl ?_
            refine rx_p (L2 := [some (.ref 51), some (.int a1), some (.int a2), some (.int a3), some (.int a4), some (.int a5), some (.int a6), some (.int a7)]) (S2 := [.ref 51, .int a1, .ref 51]) (pc2 := 65) op77_64 rfl rfl ?_
            refine rx_gf (v := .ref 63) (pc2 := 68) op77_65 sp_51 rfl rfl rfl ?_
            refine rx_p (L2 := [some (.ref 51), some (.int a1), some (.int a2), some (.int a3), some (.int a4), some (.int a5), some (.int a6), some (.int a7)]) (S2 := [.int a7, .ref 63, .int a1, .ref 51]) (pc2 := 70) op77_68 rfl rfl ?_
            obtain ⟨k20, gc40⟩ := rq_chk gc40
            refine rx_ia (pc2 := 71) op77_70 (rn_shlt sp_63) sp_63 k20 rfl rfl ?_
            refine rx_p (L2 := [some (.ref 51), some (.int a1), some (.int a2), some (.int a3), some (.int a4), some (.int a5), some (.int a6), some (.int a7)]) (S2 := [.ref 51, .int (m18.1 63 a7.toNatClampNeg), .int a1, .ref 51]) (pc2 := 72) op77_71 rfl rfl ?_
            refine rx_gf (v := .ref 64) (pc2 := 75) op77_72 sp_51 rfl rfl rfl ?_
            refine rx_p (L2 := [some (.ref 51), some (.int a1), some (.int a2), some (.int a3), some (.int a4), some (.int a5), some (.int a6), some (.int a7)]) (S2 := [.int a7, .ref 64, .int (m18.1 63 a7.toNatClampNeg), .int a1, .ref 51]) (pc2 := 77) op77_75 rfl rfl ?_
            obtain ⟨k21, gc40⟩ := rq_chk gc40
            refine rx_ia (pc2 := 78) op77_77 (rn_shlt sp_64) sp_64 k21 rfl rfl ?_
            refine rx_p (L2 := [some (.ref 51), some (.int a1), some (.int a2), some (.int a3), some (.int a4), some (.int a5), some (.int a6), some (.int a7)]) (S2 := [.int ((m18.1 63 a7.toNatClampNeg) + (m18.1 64 a7.toNatClampNeg)), .int a1, .ref 51]) (pc2 := 79) op77_78 rfl rfl ?_
            refine rx_p (L2 := [some (.ref 51), some (.int a1), some (.int a2), some (.int a3), some (.int a4), some (.int a5), some (.int a6), some (.int a7)]) (S2 := [.int a2, .int ((m18.1 63 a7.toNatClampNeg) + (m18.1 64 a7.toNatClampNeg)), .int a1, .ref 51]) (pc2 := 80) op77_79 rfl rfl ?_
            refine rx_p (L2 := [some (.ref 51), some (.int a1), some (.int a2), some (.int a3), some (.int a4), some (.int a5), some (.int a6), some (.int a7)]) (S2 := [.int a3, .int a2, .int ((m18.1 63 a7.toNatClampNeg) + (m18.1 64 a7.toNatClampNeg)), .int a1, .ref 51]) (pc2 := 81) op77_80 rfl rfl ?_
            refine rx_p (L2 := [some (.ref 51), some (.int a1), some (.int a2), some (.int a3), some (.int a4), some (.int a5), some (.int a6), some (.int a7)]) (S2 := [.int a4, .int a3, .int a2, .int ((m18.1 63 a7.toNatClampNeg) + (m18.1 64 a7.toNatClampNeg)), .int a1, .ref 51]) (pc2 := 83) op77_81 rfl rfl ?_
            refine rx_p (L2 := [some (.ref 51), some (.int a1), some (.int a2), some (.int a3), some (.int a4), some (.int a5), some (.int a6), some (.int a7)]) (S2 := [.int a5, .int a4, .int a3, .int a2, .int ((m18.1 63 a7.toNatClampNeg) + (m18.1 64 a7.toNatClampNeg)), .int a1, .ref 51]) (pc2 := 85) op77_83 rfl rfl ?_
            refine rx_p (L2 := [some (.ref 51), some (.int a1), some (.int a2), some (.int a3), some (.int a4), some (.int a5), some (.int a6), some (.int a7)]) (S2 := [.int a6, .int a5, .int a4, .int a3, .int a2, .int ((m18.1 63 a7.toNatClampNeg) + (m18.1 64 a7.toNatClampNeg)), .int a1, .ref 51]) (pc2 := 87) op77_85 rfl rfl ?_
            obtain ⟨m22, f23, gc40⟩ := rq_bind gc40
            try dsimp only at gc40
            refine ry_iv (p := 51) (vs := [.int a1, .int ((m18.1 63 a7.toNatClampNeg) + (m18.1 64 a7.toNatClampNeg)), .int a2, .int a3, .int a4, .int a5, .int a6]) (T := []) (pc2 := 90) op77_87 ms_78 (by decide) rfl rfl (Nat.le_of_ble_eq_true rfl) (Nat.le_of_ble_eq_true rfl) sp_51 (se_layTrick_ok xs hd hrec  f23) rfl ?_
            show rn_R _ _ _ _ _ [] _ _ _
            refine rx_p (L2 := [some (.ref 51), some (.int a1), some (.int a2), some (.int a3), some (.int a4), some (.int a5), some (.int a6), some (.int a7)]) (S2 := [.ref 51]) (pc2 := 91) op77_90 rfl rfl ?_
            refine rx_gf (v := .ref 64) (pc2 := 94) op77_91 sp_51 rfl rfl rfl ?_
            refine rx_p (L2 := [some (.ref 51), some (.int a1), some (.int a2), some (.int a3), some (.int a4), some (.int a5), some (.int a6), some (.int a7)]) (S2 := [.int a7, .ref 64]) (pc2 := 96) op77_94 rfl rfl ?_
            refine rx_p (L2 := [some (.ref 51), some (.int a1), some (.int a2), some (.int a3), some (.int a4), some (.int a5), some (.int a6), some (.int a7)]) (S2 := [.int a7, .ref 64, .int a7, .ref 64]) (pc2 := 97) op77_96 rfl rfl ?_
            obtain ⟨k24, gc40⟩ := rq_chk gc40
            refine rx_ia (pc2 := 98) op77_97 (rn_shlt sp_64) sp_64 k24 rfl rfl ?_
            refine rx_ic (v := 1) (pc2 := 99) op77_98 (by decide) rfl ?_
            refine rx_p (L2 := [some (.ref 51), some (.int a1), some (.int a2), some (.int a3), some (.int a4), some (.int a5), some (.int a6), some (.int a7)]) (S2 := [.int ((m22.1 64 a7.toNatClampNeg) + 1), .int a7, .ref 64]) (pc2 := 100) op77_99 rfl rfl ?_
            obtain ⟨k26, gc40⟩ := rq_chk gc40
            obtain ⟨m25, em25, gc40⟩ := rq_bv gc40
            refine rx_is (m2 := m25) (pc2 := 101) op77_100 sp_64 k26 rfl em25 rfl ?_
            cases gc40
            exact c40 ()
          · have gc40 := (if_neg b16).symm.trans gc40
            refine rx_p (L2 := [some (.ref 51), some (.int a1), some (.int a2), some (.int a3), some (.int a4), some (.int a5), some (.int a6), some (.int a7)]) (S2 := [.int a7]) (pc2 := 47) op77_45 rfl rfl ?_
            refine rx_p (L2 := [some (.ref 51), some (.int a1), some (.int a2), some (.int a3), some (.int a4), some (.int a5), some (.int a6), some (.int a7)]) (S2 := [.int a2, .int a7]) (pc2 := 48) op77_47 rfl rfl ?_
            refine ry_ic_ne (tgt := 101) (pc2 := 51) op77_48 (by decide) (by decide) rfl (fun b27 => ?_) (fun b27 => ?_)
            · have gc40 := (if_pos b27).symm.trans gc40
              refine rx_p (L2 := [some (.ref 51), some (.int a1), some (.int a2), some (.int a3), some (.int a4), some (.int a5), some (.int a6), some (.int a7)]) (S2 := [.ref 51]) (pc2 := 52) op77_51 rfl rfl ?_
              refine rx_gf (v := .ref 64) (pc2 := 55) op77_52 sp_51 rfl rfl rfl ?_
              refine rx_p (L2 := [some (.ref 51), some (.int a1), some (.int a2), some (.int a3), some (.int a4), some (.int a5), some (.int a6), some (.int a7)]) (S2 := [.int a7, .ref 64]) (pc2 := 57) op77_55 rfl rfl ?_
              refine rx_p (L2 := [some (.ref 51), some (.int a1), some (.int a2), some (.int a3), some (.int a4), some (.int a5), some (.int a6), some (.int a7)]) (S2 := [.int a7, .ref 64, .int a7, .ref 64]) (pc2 := 58) op77_57 rfl rfl ?_
              obtain ⟨k28, gc40⟩ := rq_chk gc40
              refine rx_ia (pc2 := 59) op77_58 (rn_shlt sp_64) sp_64 k28 rfl rfl ?_
              refine rx_ic (v := 1) (pc2 := 60) op77_59 (by decide) rfl ?_
              refine rx_p (L2 := [some (.ref 51), some (.int a1), some (.int a2), some (.int a3), some (.int a4), some (.int a5), some (.int a6), some (.int a7)]) (S2 := [.int ((m.1 64 a7.toNatClampNeg) - 1), .int a7, .ref 64]) (pc2 := 61) op77_60 rfl rfl ?_
              obtain ⟨k30, gc40⟩ := rq_chk gc40
              obtain ⟨m29, em29, gc40⟩ := rq_bv gc40
              refine rx_is (m2 := m29) (pc2 := 62) op77_61 sp_64 k30 rfl em29 rfl ?_
              refine rx_p (L2 := [some (.ref 51), some (.int a1), some (.int a2), some (.int a3), some (.int a4), some (.int a5), some (.int a6), some (.int a7)]) (S2 := [.ref 51]) (pc2 := 63) op77_62 rfl rfl ?_
              refine rx_p (L2 := [some (.ref 51), some (.int a1), some (.int a2), some (.int a3), some (.int a4), some (.int a5), some (.int a6), some (.int a7)]) (S2 := [.int a1, .ref 51]) (pc2 := 64) op77_63 rfl rfl ?_
              refine rx_p (L2 := [some (.ref 51), some (.int a1), some (.int a2), some (.int a3), some (.int a4), some (.int a5), some (.int a6), some (.int a7)]) (S2 := [.ref 51, .int a1, .ref 51]) (pc2 := 65) op77_64 rfl rfl ?_
              refine rx_gf (v := .ref 63) (pc2 := 68) op77_65 sp_51 rfl rfl rfl ?_
              refine rx_p (L2 := [some (.ref 51), some (.int a1), some (.int a2), some (.int a3), some (.int a4), some (.int a5), some (.int a6), some (.int a7)]) (S2 := [.int a7, .ref 63, .int a1, .ref 51]) (pc2 := 70) op77_68 rfl rfl ?_
              obtain ⟨k31, gc40⟩ := rq_chk gc40
              refine rx_ia (pc2 := 71) op77_70 (rn_shlt sp_63) sp_63 k31 rfl rfl ?_
              refine rx_p (L2 := [some (.ref 51), some (.int a1), some (.int a2), some (.int a3), some (.int a4), some (.int a5), some (.int a6), some (.int a7)]) (S2 := [.ref 51, .int (m29.1 63 a7.toNatClampNeg), .int a1, .ref 51]) (pc2 := 72) op77_71 rfl rfl ?_
              refine rx_gf (v := .ref 64) (pc2 := 75) op77_72 sp_51 rfl rfl rfl ?_
              refine rx_p (L2 := [some (.ref 51), some (.int a1), some (.int a2), some (.int a3), some (.int a4), some (.int a5), some (.int a6), some (.int a7)]) (S2 := [.int a7, .ref 64, .int (m29.1 63 a7.toNatClampNeg), .int a1, .ref 51]) (pc2 := 77) op77_75 rfl rfl ?_
              obtain ⟨k32, gc40⟩ := rq_chk gc40
              refine rx_ia (pc2 := 78) op77_77 (rn_shlt sp_64) sp_64 k32 rfl rfl ?_
              refine rx_p (L2 := [some (.ref 51), some (.int a1), some (.int a2), some (.int a3), some (.int a4), some (.int a5), some (.int a6), some (.int a7)]) (S2 := [.int ((m29.1 63 a7.toNatClampNeg) + (m29.1 64 a7.toNatClampNeg)), .int a1, .ref 51]) (pc2 := 79) op77_78 rfl rfl ?_
              refine rx_p (L2 := [some (.ref 51), some (.int a1), some (.int a2), some (.int a3), some (.int a4), some (.int a5), some (.int a6), some (.int a7)]) (S2 := [.int a2, .int ((m29.1 63 a7.toNatClampNeg) + (m29.1 64 a7.toNatClampNeg)), .int a1, .ref 51]) (pc2 := 80) op77_79 rfl rfl ?_
              refine rx_p (L2 := [some (.ref 51), some (.int a1), some (.int a2), some (.int a3), some (.int a4), some (.int a5), some (.int a6), some (.int a7)]) (S2 := [.int a3, .int a2, .int ((m29.1 63 a7.toNatClampNeg) + (m29.1 64 a7.toNatClampNeg)), .int a1, .ref 51]) (pc2 := 81) op77_80 rfl rfl ?_
              refine rx_p (L2 := [some (.ref 51), some (.int a1), some (.int a2), some (.int a3), some (.int a4), some (.int a5), some (.int a6), some (.int a7)]) (S2 := [.int a4, .int a3, .int a2, .int ((m29.1 63 a7.toNatClampNeg) + (m29.1 64 a7.toNatClampNeg)), .int a1, .ref 51]) (pc2 := 83) op77_81 rfl rfl ?_
              refine rx_p (L2 := [some (.ref 51), some (.int a1), some (.int a2), some (.int a3), some (.int a4), some (.int a5), some (.int a6), some (.int a7)]) (S2 := [.int a5, .int a4, .int a3, .int a2, .int ((m29.1 63 a7.toNatClampNeg) + (m29.1 64 a7.toNatClampNeg)), .int a1, .ref 51]) (pc2 := 85) op77_83 rfl rfl ?_
              refine rx_p (L2 := [some (.ref 51), some (.int a1), some (.int a2), some (.int a3), some (.int a4), some (.int a5), some (.int a6), some (.int a7)]) (S2 := [.int a6, .int a5, .int a4, .int a3, .int a2, .int ((m29.1 63 a7.toNatClampNeg) + (m29.1 64 a7.toNatClampNeg)), .int a1, .ref 51]) (pc2 := 87) op77_85 rfl rfl ?_
              obtain ⟨m33, f34, gc40⟩ := rq_bind gc40
              try dsimp only at gc40
              refine ry_iv (p := 51) (vs := [.int a1, .int ((m29.1 63 a7.toNatClampNeg) + (m29.1 64 a7.toNatClampNeg)), .int a2, .int a3, .int a4, .int a5, .int a6]) (T := []) (pc2 := 90) op77_87 ms_78 (by decide) rfl rfl (Nat.le_of_ble_eq_true rfl) (Nat.le_of_ble_eq_true rfl) sp_51 (se_layTrick_ok xs hd hrec  f34) rfl ?_
              show rn_R _ _ _ _ _ [] _ _ _
              refine rx_p (L2 := [some (.ref 51), some (.int a1), some (.int a2), some (.int a3), some (.int a4), some (.int a5), some (.int a6), some (.int a7)]) (S2 := [.ref 51]) (pc2 := 91) op77_90 rfl rfl ?_
              refine rx_gf (v := .ref 64) (pc2 := 94) op77_91 sp_51 rfl rfl rfl ?_
              refine rx_p (L2 := [some (.ref 51), some (.int a1), some (.int a2), some (.int a3), some (.int a4), some (.int a5), some (.int a6), some (.int a7)]) (S2 := [.int a7, .ref 64]) (pc2 := 96) op77_94 rfl rfl ?_
              refine rx_p (L2 := [some (.ref 51), some (.int a1), some (.int a2), some (.int a3), some (.int a4), some (.int a5), some (.int a6), some (.int a7)]) (S2 := [.int a7, .ref 64, .int a7, .ref 64]) (pc2 := 97) op77_96 rfl rfl ?_
              obtain ⟨k35, gc40⟩ := rq_chk gc40
              refine rx_ia (pc2 := 98) op77_97 (rn_shlt sp_64) sp_64 k35 rfl rfl ?_
              refine rx_ic (v := 1) (pc2 := 99) op77_98 (by decide) rfl ?_
              refine rx_p (L2 := [some (.ref 51), some (.int a1), some (.int a2), some (.int a3), some (.int a4), some (.int a5), some (.int a6), some (.int a7)]) (S2 := [.int ((m33.1 64 a7.toNatClampNeg) + 1), .int a7, .ref 64]) (pc2 := 100) op77_99 rfl rfl ?_
              obtain ⟨k37, gc40⟩ := rq_chk gc40
              obtain ⟨m36, em36, gc40⟩ := rq_bv gc40
              refine rx_is (m2 := m36) (pc2 := 101) op77_100 sp_64 k37 rfl em36 rfl ?_
              cases gc40
              exact c40 ()
            · have gc40 := (if_neg b27).symm.trans gc40
              cases gc40
              exact c40 ()
      · have gc40 := (if_neg b4).symm.trans gc40
        cases gc40
        exact c40 ()
    · have h := (if_neg b2).symm.trans h
      cases h
      exact hr _ rfl _ _ _ _ _ _ _ _
set_option maxHeartbeats 4000000 in
set_option maxRecDepth 20000 in
theorem se_lay_1_ok (xs : List Int32) {d : Nat} (hd : 4 ≤ d) {rec : Int32 → Int32 → Int32 → Int32 → Int32 → Int32 → rn_Mem → Option (rn_Mem)} (hrec : ∀ {a1 : Int32} {a2 : Int32} {a3 : Int32} {a4 : Int32} {a5 : Int32} {a6 : Int32} {mI mO : rn_Mem} , rec a1 a2 a3 a4 a5 a6 mI = some mO → rn_R xs d 77 0 (rn_ent 8 [.ref 51, .int a1, .int a2, .int a3, .int a4, .int a5, .int a6]) [] (rn_SH, mI) none (rn_SH, mO)) {n : Nat} {a1 : Int32} {a2 : Int32} {a3 : Int32} {a4 : Int32} {a5 : Int32} {a6 : Int32} {m mO : rn_Mem} (h : se_lay_1 rec n a1 a2 a3 a4 a5 a6 m = some mO) : rn_R xs (d + 2) 77 0 (rn_ent 8 [.ref 51, .int a1, .int a2, .int a3, .int a4, .int a5, .int a6]) [] (rn_SH, m) none (rn_SH, mO) := by
  unfold se_lay_1 at h
  show rn_R xs (d + 2) 77 0 [some (.ref 51), some (.int a1), some (.int a2), some (.int a3), some (.int a4), some (.int a5), some (.int a6), none] [] (rn_SH, m) none (rn_SH, mO)
  refine rx_p (L2 := [some (.ref 51), some (.int a1), some (.int a2), some (.int a3), some (.int a4), some (.int a5), some (.int a6), none]) (S2 := [.int a1]) (pc2 := 1) op77_0 rfl rfl ?_
  refine ry_if_ge (tgt := 5) (pc2 := 4) op77_1 (by decide) (by decide) rfl (fun b1 => ?_) (fun b1 => ?_)
  · have h := (if_pos b1).symm.trans h
    obtain rfl := Option.some.inj h
    exact ry_rv op77_4 ms_77 rfl
  · have h := (if_neg b1).symm.trans h
    refine rx_ic (v := 0) (pc2 := 6) op77_5 (by decide) rfl ?_
    refine rx_s (L2 := [some (.ref 51), some (.int a1), some (.int a2), some (.int a3), some (.int a4), some (.int a5), some (.int a6), some (.int 0)]) (pc2 := 8) op77_6 rfl rfl rfl ?_
    obtain ⟨m41, f50, h⟩ := rq_bind h
    refine se_lay_l8_ok xs hd hrec (fun m0 eq => ?_) _ _ _  f50
    subst eq
    try dsimp only at h
    intro o42 o43 o44 o45 o46 o47 o48 o49
    obtain rfl := Option.some.inj h
    exact ry_rv op77_107 ms_77 rfl
set_option maxHeartbeats 4000000 in
set_option maxRecDepth 20000 in
theorem se_lay_ok (xs : List Int32) : ∀ (k : Nat) {d : Nat} (hd : 2 * k + 4 ≤ d) {n : Nat} {a1 : Int32} {a2 : Int32} {a3 : Int32} {a4 : Int32} {a5 : Int32} {a6 : Int32} {m mO : rn_Mem} (h : se_lay n k a1 a2 a3 a4 a5 a6 m = some mO), rn_R xs d 77 0 (rn_ent 8 [.ref 51, .int a1, .int a2, .int a3, .int a4, .int a5, .int a6]) [] (rn_SH, m) none (rn_SH, mO)
  | 0, d, hd, n, a1, a2, a3, a4, a5, a6, m, mO, h => by cases h
  | k + 1, d, hd, n, a1, a2, a3, a4, a5, a6, m, mO, h => by
    obtain ⟨d, rfl⟩ : ∃ e, d = e + 2 := ⟨d - 2, by omega⟩
    exact se_lay_1_ok xs (by omega) (fun  h => se_lay_ok xs k (by omega)  h)  h
/-! se_noteUnder -/
theorem op89_0 : rn_op 89 0 = some (.iconst 0, 1, 0, 0, 0) := by decide +kernel
theorem op89_1 : rn_op 89 1 = some (.istore_n 1, 1, 0, 0, 0) := by decide +kernel
theorem op89_2 : rn_op 89 2 = some (.iload_n 1, 1, 0, 0, 0) := by decide +kernel
theorem op89_3 : rn_op 89 3 = some (.aload_n 0, 1, 0, 0, 0) := by decide +kernel
theorem op89_4 : rn_op 89 4 = some (.getfield 21, 3, 4, 1, 3) := by decide +kernel
theorem op89_7 : rn_op 89 7 = some (.getfield 113, 3, 7, 6, 0) := by decide +kernel
theorem op89_10 : rn_op 89 10 = some (.if_icmp .ge 39, 3, 0, 0, 0) := by decide +kernel
theorem op89_13 : rn_op 89 13 = some (.iload_n 1, 1, 0, 0, 0) := by decide +kernel
theorem op89_14 : rn_op 89 14 = some (.iconst 3, 1, 0, 0, 0) := by decide +kernel
theorem op89_15 : rn_op 89 15 = some (.if_icmp .ge 34, 3, 0, 0, 0) := by decide +kernel
theorem op89_18 : rn_op 89 18 = some (.aload_n 0, 1, 0, 0, 0) := by decide +kernel
theorem op89_19 : rn_op 89 19 = some (.getfield 54, 3, 4, 18, 3) := by decide +kernel
theorem op89_22 : rn_op 89 22 = some (.iload_n 1, 1, 0, 0, 0) := by decide +kernel
theorem op89_23 : rn_op 89 23 = some (.dup2, 1, 0, 0, 0) := by decide +kernel
theorem op89_24 : rn_op 89 24 = some (.iaload, 1, 0, 0, 0) := by decide +kernel
theorem op89_25 : rn_op 89 25 = some (.iconst 1, 1, 0, 0, 0) := by decide +kernel
theorem op89_26 : rn_op 89 26 = some (.aload_n 0, 1, 0, 0, 0) := by decide +kernel
theorem op89_27 : rn_op 89 27 = some (.getfield 21, 3, 4, 1, 3) := by decide +kernel
theorem op89_30 : rn_op 89 30 = some (.getfield 120, 3, 7, 3, 3) := by decide +kernel
theorem op89_33 : rn_op 89 33 = some (.aload_n 0, 1, 0, 0, 0) := by decide +kernel
theorem op89_34 : rn_op 89 34 = some (.getfield 45, 3, 4, 6, 3) := by decide +kernel
theorem op89_37 : rn_op 89 37 = some (.iload_n 1, 1, 0, 0, 0) := by decide +kernel
theorem op89_38 : rn_op 89 38 = some (.iaload, 1, 0, 0, 0) := by decide +kernel
theorem op89_39 : rn_op 89 39 = some (.iaload, 1, 0, 0, 0) := by decide +kernel
theorem op89_40 : rn_op 89 40 = some (.ishl, 1, 0, 0, 0) := by decide +kernel
theorem op89_41 : rn_op 89 41 = some (.ior, 1, 0, 0, 0) := by decide +kernel
theorem op89_42 : rn_op 89 42 = some (.iastore, 1, 0, 0, 0) := by decide +kernel
theorem op89_43 : rn_op 89 43 = some (.iinc 1 1, 3, 0, 0, 0) := by decide +kernel
theorem op89_46 : rn_op 89 46 = some (.goto (-44), 3, 0, 0, 0) := by decide +kernel
theorem op89_49 : rn_op 89 49 = some (.return_, 1, 0, 0, 0) := by decide +kernel
def se_noteUnder_l2  : Nat → Int32 → rn_Mem → Option (rn_Mem)
  | 0, _, _ => none
  | n + 1, a1, m =>
    if a1 < (m.1 53 6) then
      if a1 < 3 then
        if rn_in a1 3 = true then
          if rn_in a1 3 = true then
            if rn_in (m.1 65 a1.toNatClampNeg) 48 = true then
              if rn_in a1 3 = true then
                (some (rm_i m 68 a1.toNatClampNeg ((m.1 68 a1.toNatClampNeg) ||| ((1 : Int32) <<< ((m.1 56 (m.1 65 a1.toNatClampNeg).toNatClampNeg) &&& 31))))).bind fun (m6 : rn_Mem) =>
                (some (a1 + 1)).bind fun (x8 : Int32) =>
                se_noteUnder_l2 n x8 m6
              else none
            else none
          else none
        else none
      else
        some m
    else
      some m
def se_noteUnder (n : Nat)  (m : rn_Mem) : Option (rn_Mem) :=
  (se_noteUnder_l2 n 0 m).bind fun m9 =>
  some m9
set_option maxHeartbeats 4000000 in
set_option maxRecDepth 20000 in
theorem se_noteUnder_l2_ok (xs : List Int32) {d : Nat} {r : Option Value} {τ : rn_H} {out : rn_Mem} (hr : ∀ (mO : rn_Mem), out = mO → ∀ (o0 o1 : Option Value), rn_R xs d 89 49 [o0, o1] [] (rn_SH, mO) r τ) : ∀ (n : Nat) (a1 : Int32) (m : rn_Mem), se_noteUnder_l2 n a1 m = some out → rn_R xs d 89 2 [some (.ref 51), some (.int a1)] [] (rn_SH, m) r τ := by
  intro n
  induction n with
  | zero =>
    intro _ _ h
    cases h
  | succ n ih =>
    intro a1 m h
    unfold se_noteUnder_l2 at h
    try dsimp only at h
    refine rx_p (L2 := [some (.ref 51), some (.int a1)]) (S2 := [.int a1]) (pc2 := 3) op89_2 rfl rfl ?_
    refine rx_p (L2 := [some (.ref 51), some (.int a1)]) (S2 := [.ref 51, .int a1]) (pc2 := 4) op89_3 rfl rfl ?_
    refine rx_gf (v := .ref 53) (pc2 := 7) op89_4 sp_51 rfl rfl rfl ?_
    refine rx_gf (v := .int (m.1 53 6)) (pc2 := 10) op89_7 sp_53 rfl rfl rfl ?_
    refine ry_ic_ge (tgt := 49) (pc2 := 13) op89_10 (by decide) (by decide) rfl (fun b1 => ?_) (fun b1 => ?_)
    · have h := (if_pos b1).symm.trans h
      refine rx_p (L2 := [some (.ref 51), some (.int a1)]) (S2 := [.int a1]) (pc2 := 14) op89_13 rfl rfl ?_
      refine rx_ic (v := 3) (pc2 := 15) op89_14 (by decide) rfl ?_
      refine ry_ic_ge (tgt := 49) (pc2 := 18) op89_15 (by decide) (by decide) rfl (fun b2 => ?_) (fun b2 => ?_)
      · have h := (if_pos b2).symm.trans h
        refine rx_p (L2 := [some (.ref 51), some (.int a1)]) (S2 := [.ref 51]) (pc2 := 19) op89_18 rfl rfl ?_
        refine rx_gf (v := .ref 68) (pc2 := 22) op89_19 sp_51 rfl rfl rfl ?_
        refine rx_p (L2 := [some (.ref 51), some (.int a1)]) (S2 := [.int a1, .ref 68]) (pc2 := 23) op89_22 rfl rfl ?_
        refine rx_p (L2 := [some (.ref 51), some (.int a1)]) (S2 := [.int a1, .ref 68, .int a1, .ref 68]) (pc2 := 24) op89_23 rfl rfl ?_
        obtain ⟨k3, h⟩ := rq_chk h
        refine rx_ia (pc2 := 25) op89_24 (rn_shlt sp_68) sp_68 k3 rfl rfl ?_
        refine rx_ic (v := 1) (pc2 := 26) op89_25 (by decide) rfl ?_
        refine rx_p (L2 := [some (.ref 51), some (.int a1)]) (S2 := [.ref 51, .int 1, .int (m.1 68 a1.toNatClampNeg), .int a1, .ref 68]) (pc2 := 27) op89_26 rfl rfl ?_
        refine rx_gf (v := .ref 53) (pc2 := 30) op89_27 sp_51 rfl rfl rfl ?_
        refine rx_gf (v := .ref 56) (pc2 := 33) op89_30 sp_53 rfl rfl rfl ?_
        refine rx_p (L2 := [some (.ref 51), some (.int a1)]) (S2 := [.ref 51, .ref 56, .int 1, .int (m.1 68 a1.toNatClampNeg), .int a1, .ref 68]) (pc2 := 34) op89_33 rfl rfl ?_
        refine rx_gf (v := .ref 65) (pc2 := 37) op89_34 sp_51 rfl rfl rfl ?_
        refine rx_p (L2 := [some (.ref 51), some (.int a1)]) (S2 := [.int a1, .ref 65, .ref 56, .int 1, .int (m.1 68 a1.toNatClampNeg), .int a1, .ref 68]) (pc2 := 38) op89_37 rfl rfl ?_
        obtain ⟨k4, h⟩ := rq_chk h
        refine rx_ia (pc2 := 39) op89_38 (rn_shlt sp_65) sp_65 k4 rfl rfl ?_
        obtain ⟨k5, h⟩ := rq_chk h
        refine rx_ia (pc2 := 40) op89_39 (rn_shlt sp_56) sp_56 k5 rfl rfl ?_
        refine rx_p (L2 := [some (.ref 51), some (.int a1)]) (S2 := [.int ((1 : Int32) <<< ((m.1 56 (m.1 65 a1.toNatClampNeg).toNatClampNeg) &&& 31)), .int (m.1 68 a1.toNatClampNeg), .int a1, .ref 68]) (pc2 := 41) op89_40 rfl rfl ?_
        refine rx_p (L2 := [some (.ref 51), some (.int a1)]) (S2 := [.int ((m.1 68 a1.toNatClampNeg) ||| ((1 : Int32) <<< ((m.1 56 (m.1 65 a1.toNatClampNeg).toNatClampNeg) &&& 31))), .int a1, .ref 68]) (pc2 := 42) op89_41 rfl rfl ?_
        obtain ⟨k7, h⟩ := rq_chk h
        obtain ⟨m6, em6, h⟩ := rq_bv h
        refine rx_is (m2 := m6) (pc2 := 43) op89_42 sp_68 k7 rfl em6 rfl ?_
        obtain ⟨x8, ex8, h⟩ := rq_bv h
        refine rx_inc (w := 1) (v := x8) (L2 := [some (.ref 51), some (.int x8)]) (pc2 := 46) op89_43 rfl (by decide) ex8 rfl rfl ?_
        refine ry_go (tgt := 2) op89_46 (by decide) (by decide) ?_
        exact ih _ _ h
      · have h := (if_neg b2).symm.trans h
        cases h
        exact hr _ rfl _ _
    · have h := (if_neg b1).symm.trans h
      cases h
      exact hr _ rfl _ _
set_option maxHeartbeats 4000000 in
set_option maxRecDepth 20000 in
theorem se_noteUnder_ok (xs : List Int32) {d : Nat} (hd : 0 ≤ d) {n : Nat} {m mO : rn_Mem} (h : se_noteUnder n  m = some mO) : rn_R xs d 89 0 (rn_ent 2 [.ref 51]) [] (rn_SH, m) none (rn_SH, mO) := by
  unfold se_noteUnder at h
  show rn_R xs d 89 0 [some (.ref 51), none] [] (rn_SH, m) none (rn_SH, mO)
  refine rx_ic (v := 0) (pc2 := 1) op89_0 (by decide) rfl ?_
  refine rx_s (L2 := [some (.ref 51), some (.int 0)]) (pc2 := 2) op89_1 rfl rfl rfl ?_
  obtain ⟨m9, f12, h⟩ := rq_bind h
  refine se_noteUnder_l2_ok xs (fun m0 eq => ?_) _ _ _  f12
  subst eq
  try dsimp only at h
  intro o10 o11
  obtain rfl := Option.some.inj h
  exact ry_rv op89_49 ms_89 rfl
/-! se_run -/
theorem op65_0 : rn_op 65 0 = some (.aload_n 0, 1, 0, 0, 0) := by decide +kernel
theorem op65_1 : rn_op 65 1 = some (.invokevirtual 110, 3, 66, 1, 4) := by decide +kernel
theorem op65_4 : rn_op 65 4 = some (.aload_n 0, 1, 0, 0, 0) := by decide +kernel
theorem op65_5 : rn_op 65 5 = some (.getfield 21, 3, 4, 1, 3) := by decide +kernel
theorem op65_8 : rn_op 65 8 = some (.getfield 113, 3, 7, 6, 0) := by decide +kernel
theorem op65_11 : rn_op 65 11 = some (.iconst 2, 1, 0, 0, 0) := by decide +kernel
theorem op65_12 : rn_op 65 12 = some (.if_icmp .ge 7, 3, 0, 0, 0) := by decide +kernel
theorem op65_15 : rn_op 65 15 = some (.iconst 1, 1, 0, 0, 0) := by decide +kernel
theorem op65_16 : rn_op 65 16 = some (.goto 20, 3, 0, 0, 0) := by decide +kernel
theorem op65_19 : rn_op 65 19 = some (.aload_n 0, 1, 0, 0, 0) := by decide +kernel
theorem op65_20 : rn_op 65 20 = some (.getfield 21, 3, 4, 1, 3) := by decide +kernel
theorem op65_23 : rn_op 65 23 = some (.getfield 113, 3, 7, 6, 0) := by decide +kernel
theorem op65_26 : rn_op 65 26 = some (.iconst 2, 1, 0, 0, 0) := by decide +kernel
theorem op65_27 : rn_op 65 27 = some (.if_icmp .ne 7, 3, 0, 0, 0) := by decide +kernel
theorem op65_30 : rn_op 65 30 = some (.iconst 2, 1, 0, 0, 0) := by decide +kernel
theorem op65_31 : rn_op 65 31 = some (.goto 5, 3, 0, 0, 0) := by decide +kernel
theorem op65_34 : rn_op 65 34 = some (.bipush 6, 2, 0, 0, 0) := by decide +kernel
theorem op65_36 : rn_op 65 36 = some (.istore_n 1, 1, 0, 0, 0) := by decide +kernel
theorem op65_37 : rn_op 65 37 = some (.iconst 0, 1, 0, 0, 0) := by decide +kernel
theorem op65_38 : rn_op 65 38 = some (.istore_n 2, 1, 0, 0, 0) := by decide +kernel
theorem op65_39 : rn_op 65 39 = some (.iload_n 2, 1, 0, 0, 0) := by decide +kernel
theorem op65_40 : rn_op 65 40 = some (.iload_n 1, 1, 0, 0, 0) := by decide +kernel
theorem op65_41 : rn_op 65 41 = some (.if_icmp .ge 123, 3, 0, 0, 0) := by decide +kernel
theorem op65_44 : rn_op 65 44 = some (.aload_n 0, 1, 0, 0, 0) := by decide +kernel
theorem op65_45 : rn_op 65 45 = some (.invokevirtual 116, 3, 67, 1, 4) := by decide +kernel
theorem op65_48 : rn_op 65 48 = some (.ifCond .ne 116, 3, 0, 0, 0) := by decide +kernel
theorem op65_51 : rn_op 65 51 = some (.aload_n 0, 1, 0, 0, 0) := by decide +kernel
theorem op65_52 : rn_op 65 52 = some (.getfield 80, 3, 4, 12, 1) := by decide +kernel
theorem op65_55 : rn_op 65 55 = some (.lstore_n 3, 1, 0, 0, 0) := by decide +kernel
theorem op65_56 : rn_op 65 56 = some (.iconst 0, 1, 0, 0, 0) := by decide +kernel
theorem op65_57 : rn_op 65 57 = some (.istore 5, 2, 0, 0, 0) := by decide +kernel
theorem op65_59 : rn_op 65 59 = some (.iload 5, 2, 0, 0, 0) := by decide +kernel
theorem op65_61 : rn_op 65 61 = some (.aload_n 0, 1, 0, 0, 0) := by decide +kernel
theorem op65_62 : rn_op 65 62 = some (.getfield 21, 3, 4, 1, 3) := by decide +kernel
theorem op65_65 : rn_op 65 65 = some (.getfield 113, 3, 7, 6, 0) := by decide +kernel
theorem op65_68 : rn_op 65 68 = some (.if_icmp .ge 45, 3, 0, 0, 0) := by decide +kernel
theorem op65_71 : rn_op 65 71 = some (.iload 5, 2, 0, 0, 0) := by decide +kernel
theorem op65_73 : rn_op 65 73 = some (.iconst 3, 1, 0, 0, 0) := by decide +kernel
theorem op65_74 : rn_op 65 74 = some (.if_icmp .ge 39, 3, 0, 0, 0) := by decide +kernel
theorem op65_77 : rn_op 65 77 = some (.aload_n 0, 1, 0, 0, 0) := by decide +kernel
theorem op65_78 : rn_op 65 78 = some (.getfield 21, 3, 4, 1, 3) := by decide +kernel
theorem op65_81 : rn_op 65 81 = some (.getfield 120, 3, 7, 3, 3) := by decide +kernel
theorem op65_84 : rn_op 65 84 = some (.aload_n 0, 1, 0, 0, 0) := by decide +kernel
theorem op65_85 : rn_op 65 85 = some (.getfield 45, 3, 4, 6, 3) := by decide +kernel
theorem op65_88 : rn_op 65 88 = some (.iload 5, 2, 0, 0, 0) := by decide +kernel
theorem op65_90 : rn_op 65 90 = some (.iaload, 1, 0, 0, 0) := by decide +kernel
theorem op65_91 : rn_op 65 91 = some (.aload_n 0, 1, 0, 0, 0) := by decide +kernel
theorem op65_92 : rn_op 65 92 = some (.getfield 48, 3, 4, 7, 3) := by decide +kernel
theorem op65_95 : rn_op 65 95 = some (.getstatic 123, 3, 0, 1, 0) := by decide +kernel
theorem op65_98 : rn_op 65 98 = some (.iconst 3, 1, 0, 0, 0) := by decide +kernel
theorem op65_99 : rn_op 65 99 = some (.iload_n 2, 1, 0, 0, 0) := by decide +kernel
theorem op65_100 : rn_op 65 100 = some (.imul, 1, 0, 0, 0) := by decide +kernel
theorem op65_101 : rn_op 65 101 = some (.iload 5, 2, 0, 0, 0) := by decide +kernel
theorem op65_103 : rn_op 65 103 = some (.iadd, 1, 0, 0, 0) := by decide +kernel
theorem op65_104 : rn_op 65 104 = some (.iaload, 1, 0, 0, 0) := by decide +kernel
theorem op65_105 : rn_op 65 105 = some (.iaload, 1, 0, 0, 0) := by decide +kernel
theorem op65_106 : rn_op 65 106 = some (.iastore, 1, 0, 0, 0) := by decide +kernel
theorem op65_107 : rn_op 65 107 = some (.iinc 5 1, 3, 0, 0, 0) := by decide +kernel
theorem op65_110 : rn_op 65 110 = some (.goto (-51), 3, 0, 0, 0) := by decide +kernel
theorem op65_113 : rn_op 65 113 = some (.aload_n 0, 1, 0, 0, 0) := by decide +kernel
theorem op65_114 : rn_op 65 114 = some (.invokevirtual 126, 3, 68, 1, 4) := by decide +kernel
theorem op65_117 : rn_op 65 117 = some (.aload_n 0, 1, 0, 0, 0) := by decide +kernel
theorem op65_118 : rn_op 65 118 = some (.aload_n 0, 1, 0, 0, 0) := by decide +kernel
theorem op65_119 : rn_op 65 119 = some (.getfield 12, 3, 4, 0, 3) := by decide +kernel
theorem op65_122 : rn_op 65 122 = some (.getfield 129, 3, 1, 2, 0) := by decide +kernel
theorem op65_125 : rn_op 65 125 = some (.iconst 1, 1, 0, 0, 0) := by decide +kernel
theorem op65_126 : rn_op 65 126 = some (.isub, 1, 0, 0, 0) := by decide +kernel
theorem op65_127 : rn_op 65 127 = some (.aload_n 0, 1, 0, 0, 0) := by decide +kernel
theorem op65_128 : rn_op 65 128 = some (.invokevirtual 132, 3, 76, 1, 4) := by decide +kernel
theorem op65_131 : rn_op 65 131 = some (.iconst 0, 1, 0, 0, 0) := by decide +kernel
theorem op65_132 : rn_op 65 132 = some (.iconst 0, 1, 0, 0, 0) := by decide +kernel
theorem op65_133 : rn_op 65 133 = some (.iconst 0, 1, 0, 0, 0) := by decide +kernel
theorem op65_134 : rn_op 65 134 = some (.iconst 0, 1, 0, 0, 0) := by decide +kernel
theorem op65_135 : rn_op 65 135 = some (.invokevirtual 136, 3, 77, 7, 4) := by decide +kernel
theorem op65_138 : rn_op 65 138 = some (.aload_n 0, 1, 0, 0, 0) := by decide +kernel
theorem op65_139 : rn_op 65 139 = some (.getfield 76, 3, 4, 10, 0) := by decide +kernel
theorem op65_142 : rn_op 65 142 = some (.ifCond .ne 16, 3, 0, 0, 0) := by decide +kernel
theorem op65_145 : rn_op 65 145 = some (.aload_n 0, 1, 0, 0, 0) := by decide +kernel
theorem op65_146 : rn_op 65 146 = some (.getfield 80, 3, 4, 12, 1) := by decide +kernel
theorem op65_149 : rn_op 65 149 = some (.lload_n 3, 1, 0, 0, 0) := by decide +kernel
theorem op65_150 : rn_op 65 150 = some (.lcmp, 1, 0, 0, 0) := by decide +kernel
theorem op65_151 : rn_op 65 151 = some (.ifCond .eq 7, 3, 0, 0, 0) := by decide +kernel
theorem op65_154 : rn_op 65 154 = some (.aload_n 0, 1, 0, 0, 0) := by decide +kernel
theorem op65_155 : rn_op 65 155 = some (.invokevirtual 140, 3, 89, 1, 4) := by decide +kernel
theorem op65_158 : rn_op 65 158 = some (.iinc 2 1, 3, 0, 0, 0) := by decide +kernel
theorem op65_161 : rn_op 65 161 = some (.goto (-122), 3, 0, 0, 0) := by decide +kernel
theorem op65_164 : rn_op 65 164 = some (.return_, 1, 0, 0, 0) := by decide +kernel
def se_run_l59 (a1 : Int32) (a2 : Int32) (a3 : Int64) : Nat → Int32 → rn_Mem → Option (rn_Mem)
  | 0, _, _ => none
  | n + 1, a5, m =>
    if a5 < (m.1 53 6) then
      if a5 < 3 then
        if rn_in a5 3 = true then
          if rn_in (((3 : Int32) * a2) + a5) (rn_orders.length) = true then
            if rn_in (rn_orders.getD (((3 : Int32) * a2) + a5).toNatClampNeg 0) 3 = true then
              if rn_in (m.1 65 a5.toNatClampNeg) 48 = true then
                (some (rm_i m 56 (m.1 65 a5.toNatClampNeg).toNatClampNeg (m.1 66 (rn_orders.getD (((3 : Int32) * a2) + a5).toNatClampNeg 0).toNatClampNeg))).bind fun (m22 : rn_Mem) =>
                (some (a5 + 1)).bind fun (x24 : Int32) =>
                se_run_l59 a1 a2 a3 n x24 m22
              else none
            else none
          else none
        else none
      else
        some m
    else
      some m
def se_run_l39 (a1 : Int32) : Nat → Int32 → rn_Mem → Option (rn_Mem)
  | 0, _, _ => none
  | n + 1, a2, m =>
    if a2 < a1 then
      (se_settled n m).bind fun (r13, m12) =>
      if r13 = 0 then
        (some (m12.2 51 12)).bind fun (x16 : Int64) =>
        (se_run_l59 a1 a2 x16 n 0 m12).bind fun m26 =>
        (se_gather n m26).bind fun m29 =>
        (se_lastLeader n m29).bind fun (r32, m31) =>
        (se_lay n 16 ((m29.1 52 2) - 1) r32 0 0 0 0 m31).bind fun m34 =>
        (show Option (rn_Mem) from
          if (m34.1 51 10) = 0 then
            if (lg_cmp (m34.2 51 12) x16) = 0 then
              some (m34)
            else
              (se_noteUnder n m34).bind fun m38 =>
              some (m38)
          else
            some (m34)).bind fun m43 =>
        (some (a2 + 1)).bind fun (x44 : Int32) =>
        se_run_l39 a1 n x44 m43
      else
        some m12
    else
      some m
def se_run (n : Nat)  (m : rn_Mem) : Option (rn_Mem) :=
  (se_listUnseen n m).bind fun m1 =>
  (show Option (Int32) from
    if (m1.1 53 6) < 2 then
      some (1)
    else
      if (m1.1 53 6) = 2 then
        some (2)
      else
        some (6)).bind fun x10 =>
  (se_run_l39 x10 n 0 m1).bind fun m47 =>
  some m47
set_option maxHeartbeats 4000000 in
set_option maxRecDepth 20000 in
theorem se_run_l59_ok (xs : List Int32) {d : Nat} (hd : 39 ≤ d + 1) {a1 : Int32} {a2 : Int32} {a3 : Int64} {r : Option Value} {τ : rn_H} {out : rn_Mem} (hr : ∀ (mO : rn_Mem), out = mO → ∀ (o4 o5 : Option Value), rn_R xs (d + 1) 65 113 [some (.ref 51), some (.int a1), some (.int a2), some (.long a3), o4, o5] [] (rn_SH, mO) r τ) : ∀ (n : Nat) (a5 : Int32) (o4 : Option Value) (m : rn_Mem), se_run_l59 a1 a2 a3 n a5 m = some out → rn_R xs (d + 1) 65 59 [some (.ref 51), some (.int a1), some (.int a2), some (.long a3), o4, some (.int a5)] [] (rn_SH, m) r τ := by
  intro n
  induction n with
  | zero =>
    intro _ _ _ h
    cases h
  | succ n ih =>
    intro a5 o4 m h
    unfold se_run_l59 at h
    try dsimp only at h
    refine rx_p (L2 := [some (.ref 51), some (.int a1), some (.int a2), some (.long a3), o4, some (.int a5)]) (S2 := [.int a5]) (pc2 := 61) op65_59 rfl rfl ?_
    refine rx_p (L2 := [some (.ref 51), some (.int a1), some (.int a2), some (.long a3), o4, some (.int a5)]) (S2 := [.ref 51, .int a5]) (pc2 := 62) op65_61 rfl rfl ?_
    refine rx_gf (v := .ref 53) (pc2 := 65) op65_62 sp_51 rfl rfl rfl ?_
    refine rx_gf (v := .int (m.1 53 6)) (pc2 := 68) op65_65 sp_53 rfl rfl rfl ?_
    refine ry_ic_ge (tgt := 113) (pc2 := 71) op65_68 (by decide) (by decide) rfl (fun b17 => ?_) (fun b17 => ?_)
    · have h := (if_pos b17).symm.trans h
      refine rx_p (L2 := [some (.ref 51), some (.int a1), some (.int a2), some (.long a3), o4, some (.int a5)]) (S2 := [.int a5]) (pc2 := 73) op65_71 rfl rfl ?_
      refine rx_ic (v := 3) (pc2 := 74) op65_73 (by decide) rfl ?_
      refine ry_ic_ge (tgt := 113) (pc2 := 77) op65_74 (by decide) (by decide) rfl (fun b18 => ?_) (fun b18 => ?_)
      · have h := (if_pos b18).symm.trans h
        refine rx_p (L2 := [some (.ref 51), some (.int a1), some (.int a2), some (.long a3), o4, some (.int a5)]) (S2 := [.ref 51]) (pc2 := 78) op65_77 rfl rfl ?_
        refine rx_gf (v := .ref 53) (pc2 := 81) op65_78 sp_51 rfl rfl rfl ?_
        refine rx_gf (v := .ref 56) (pc2 := 84) op65_81 sp_53 rfl rfl rfl ?_
        refine rx_p (L2 := [some (.ref 51), some (.int a1), some (.int a2), some (.long a3), o4, some (.int a5)]) (S2 := [.ref 51, .ref 56]) (pc2 := 85) op65_84 rfl rfl ?_
        refine rx_gf (v := .ref 65) (pc2 := 88) op65_85 sp_51 rfl rfl rfl ?_
        refine rx_p (L2 := [some (.ref 51), some (.int a1), some (.int a2), some (.long a3), o4, some (.int a5)]) (S2 := [.int a5, .ref 65, .ref 56]) (pc2 := 90) op65_88 rfl rfl ?_
        obtain ⟨k19, h⟩ := rq_chk h
        refine rx_ia (pc2 := 91) op65_90 (rn_shlt sp_65) sp_65 k19 rfl rfl ?_
        refine rx_p (L2 := [some (.ref 51), some (.int a1), some (.int a2), some (.long a3), o4, some (.int a5)]) (S2 := [.ref 51, .int (m.1 65 a5.toNatClampNeg), .ref 56]) (pc2 := 92) op65_91 rfl rfl ?_
        refine rx_gf (v := .ref 66) (pc2 := 95) op65_92 sp_51 rfl rfl rfl ?_
        refine rx_gs (pc2 := 98) op65_95 rfl ?_
        refine rx_ic (v := 3) (pc2 := 99) op65_98 (by decide) rfl ?_
        refine rx_p (L2 := [some (.ref 51), some (.int a1), some (.int a2), some (.long a3), o4, some (.int a5)]) (S2 := [.int a2, .int 3, .ref 10000, .ref 66, .int (m.1 65 a5.toNatClampNeg), .ref 56]) (pc2 := 100) op65_99 rfl rfl ?_
        refine rx_p (L2 := [some (.ref 51), some (.int a1), some (.int a2), some (.long a3), o4, some (.int a5)]) (S2 := [.int ((3 : Int32) * a2), .ref 10000, .ref 66, .int (m.1 65 a5.toNatClampNeg), .ref 56]) (pc2 := 101) op65_100 rfl rfl ?_
        refine rx_p (L2 := [some (.ref 51), some (.int a1), some (.int a2), some (.long a3), o4, some (.int a5)]) (S2 := [.int a5, .int ((3 : Int32) * a2), .ref 10000, .ref 66, .int (m.1 65 a5.toNatClampNeg), .ref 56]) (pc2 := 103) op65_101 rfl rfl ?_
        refine rx_p (L2 := [some (.ref 51), some (.int a1), some (.int a2), some (.long a3), o4, some (.int a5)]) (S2 := [.int (((3 : Int32) * a2) + a5), .ref 10000, .ref 66, .int (m.1 65 a5.toNatClampNeg), .ref 56]) (pc2 := 104) op65_103 rfl rfl ?_
        obtain ⟨k20, h⟩ := rq_chk h
        refine rx_ix (pc2 := 105) op65_104 (by decide) k20 rfl ?_
        show rn_R _ _ _ _ _ [.int (rn_orders.getD (((3 : Int32) * a2) + a5).toNatClampNeg 0), .ref 66, .int (m.1 65 a5.toNatClampNeg), .ref 56] _ _ _
        obtain ⟨k21, h⟩ := rq_chk h
        refine rx_ia (pc2 := 106) op65_105 (rn_shlt sp_66) sp_66 k21 rfl rfl ?_
        obtain ⟨k23, h⟩ := rq_chk h
        obtain ⟨m22, em22, h⟩ := rq_bv h
        refine rx_is (m2 := m22) (pc2 := 107) op65_106 sp_56 k23 rfl em22 rfl ?_
        obtain ⟨x24, ex24, h⟩ := rq_bv h
        refine rx_incd (w := 1) (v := x24) (j := 4) (pc2 := 110) op65_107 rfl (by decide) ex24 rfl (fun o25 => ?_)
        show rn_R _ _ _ _ [some (.ref 51), some (.int a1), some (.int a2), some (.long a3), o25, some (.int x24)] _ _ _ _
        refine ry_go (tgt := 59) op65_110 (by decide) (by decide) ?_
        exact ih _ _ _ h
      · have h := (if_neg b18).symm.trans h
        cases h
        exact hr _ rfl _ _
    · have h := (if_neg b17).symm.trans h
      cases h
      exact hr _ rfl _ _
set_option maxHeartbeats 4000000 in
set_option maxRecDepth 20000 in
theorem se_run_l39_ok (xs : List Int32) {d : Nat} (hd : 39 ≤ d + 1) {a1 : Int32} {r : Option Value} {τ : rn_H} {out : rn_Mem} (hr : ∀ (mO : rn_Mem), out = mO → ∀ (o0 o1 o2 o3 o4 o5 : Option Value), rn_R xs (d + 1) 65 164 [o0, o1, o2, o3, o4, o5] [] (rn_SH, mO) r τ) : ∀ (n : Nat) (a2 : Int32) (o3 o4 o5 : Option Value) (m : rn_Mem), se_run_l39 a1 n a2 m = some out → rn_R xs (d + 1) 65 39 [some (.ref 51), some (.int a1), some (.int a2), o3, o4, o5] [] (rn_SH, m) r τ := by
  intro n
  induction n with
  | zero =>
    intro _ _ _ _ _ h
    cases h
  | succ n ih =>
    intro a2 o3 o4 o5 m h
    unfold se_run_l39 at h
    try dsimp only at h
    refine rx_p (L2 := [some (.ref 51), some (.int a1), some (.int a2), o3, o4, o5]) (S2 := [.int a2]) (pc2 := 40) op65_39 rfl rfl ?_
    refine rx_p (L2 := [some (.ref 51), some (.int a1), some (.int a2), o3, o4, o5]) (S2 := [.int a1, .int a2]) (pc2 := 41) op65_40 rfl rfl ?_
    refine ry_ic_ge (tgt := 164) (pc2 := 44) op65_41 (by decide) (by decide) rfl (fun b11 => ?_) (fun b11 => ?_)
    · have h := (if_pos b11).symm.trans h
      refine rx_p (L2 := [some (.ref 51), some (.int a1), some (.int a2), o3, o4, o5]) (S2 := [.ref 51]) (pc2 := 45) op65_44 rfl rfl ?_
      obtain ⟨⟨r13, m12⟩, f14, h⟩ := rq_bind h
      try dsimp only at h
      refine ry_iv (p := 51) (vs := []) (T := []) (pc2 := 48) op65_45 ms_67 (by decide) rfl rfl (Nat.le_of_ble_eq_true rfl) (Nat.le_of_ble_eq_true rfl) sp_51 (se_settled_ok xs (by omega)  f14) rfl ?_
      show rn_R _ _ _ _ _ [.int r13] _ _ _
      refine ry_if_ne (tgt := 164) (pc2 := 51) op65_48 (by decide) (by decide) rfl (fun b15 => ?_) (fun b15 => ?_)
      · have h := (if_pos b15).symm.trans h
        refine rx_p (L2 := [some (.ref 51), some (.int a1), some (.int a2), o3, o4, o5]) (S2 := [.ref 51]) (pc2 := 52) op65_51 rfl rfl ?_
        refine rx_gf (v := .long (m12.2 51 12)) (pc2 := 55) op65_52 sp_51 rfl rfl rfl ?_
        obtain ⟨x16, ex16, h⟩ := rq_bv h
        refine rx_sl (v := x16) (L2 := [some (.ref 51), some (.int a1), some (.int a2), some (.long x16), none, o5]) (pc2 := 56) op65_55 ex16 rfl rfl ?_
        refine rx_ic (v := 0) (pc2 := 57) op65_56 (by decide) rfl ?_
        refine rx_s (L2 := [some (.ref 51), some (.int a1), some (.int a2), some (.long x16), none, some (.int 0)]) (pc2 := 59) op65_57 rfl rfl rfl ?_
        obtain ⟨m26, f46, h⟩ := rq_bind h
        refine se_run_l59_ok xs hd (fun m0 eq => ?_) _ _ _ _  f46
        subst eq
        try dsimp only at h
        intro o27 o28
        refine rx_p (L2 := [some (.ref 51), some (.int a1), some (.int a2), some (.long x16), o27, o28]) (S2 := [.ref 51]) (pc2 := 114) op65_113 rfl rfl ?_
        obtain ⟨m29, f30, h⟩ := rq_bind h
        try dsimp only at h
        refine ry_iv (p := 51) (vs := []) (T := []) (pc2 := 117) op65_114 ms_68 (by decide) rfl rfl (Nat.le_of_ble_eq_true rfl) (Nat.le_of_ble_eq_true rfl) sp_51 (se_gather_ok xs (by omega)  f30) rfl ?_
        show rn_R _ _ _ _ _ [] _ _ _
        refine rx_p (L2 := [some (.ref 51), some (.int a1), some (.int a2), some (.long x16), o27, o28]) (S2 := [.ref 51]) (pc2 := 118) op65_117 rfl rfl ?_
        refine rx_p (L2 := [some (.ref 51), some (.int a1), some (.int a2), some (.long x16), o27, o28]) (S2 := [.ref 51, .ref 51]) (pc2 := 119) op65_118 rfl rfl ?_
        refine rx_gf (v := .ref 52) (pc2 := 122) op65_119 sp_51 rfl rfl rfl ?_
        refine rx_gf (v := .int (m29.1 52 2)) (pc2 := 125) op65_122 sp_52 rfl rfl rfl ?_
        refine rx_ic (v := 1) (pc2 := 126) op65_125 (by decide) rfl ?_
        refine rx_p (L2 := [some (.ref 51), some (.int a1), some (.int a2), some (.long x16), o27, o28]) (S2 := [.int ((m29.1 52 2) - 1), .ref 51]) (pc2 := 127) op65_126 rfl rfl ?_
        refine rx_p (L2 := [some (.ref 51), some (.int a1), some (.int a2), some (.long x16), o27, o28]) (S2 := [.ref 51, .int ((m29.1 52 2) - 1), .ref 51]) (pc2 := 128) op65_127 rfl rfl ?_
        obtain ⟨⟨r32, m31⟩, f33, h⟩ := rq_bind h
        try dsimp only at h
        refine ry_iv (p := 51) (vs := []) (T := [.int ((m29.1 52 2) - 1), .ref 51]) (pc2 := 131) op65_128 ms_76 (by decide) rfl rfl (Nat.le_of_ble_eq_true rfl) (Nat.le_of_ble_eq_true rfl) sp_51 (se_lastLeader_ok xs (by omega)  f33) rfl ?_
        show rn_R _ _ _ _ _ [.int r32, .int ((m29.1 52 2) - 1), .ref 51] _ _ _
        refine rx_ic (v := 0) (pc2 := 132) op65_131 (by decide) rfl ?_
        refine rx_ic (v := 0) (pc2 := 133) op65_132 (by decide) rfl ?_
        refine rx_ic (v := 0) (pc2 := 134) op65_133 (by decide) rfl ?_
        refine rx_ic (v := 0) (pc2 := 135) op65_134 (by decide) rfl ?_
        obtain ⟨m34, f35, h⟩ := rq_bind h
        try dsimp only at h
        refine ry_iv (p := 51) (vs := [.int ((m29.1 52 2) - 1), .int r32, .int 0, .int 0, .int 0, .int 0]) (T := []) (pc2 := 138) op65_135 ms_77 (by decide) rfl rfl (Nat.le_of_ble_eq_true rfl) (Nat.le_of_ble_eq_true rfl) sp_51 (se_lay_ok xs 16 (by omega)  f35) rfl ?_
        show rn_R _ _ _ _ _ [] _ _ _
        refine rx_p (L2 := [some (.ref 51), some (.int a1), some (.int a2), some (.long x16), o27, o28]) (S2 := [.ref 51]) (pc2 := 139) op65_138 rfl rfl ?_
        refine rx_gf (v := .int (m34.1 51 10)) (pc2 := 142) op65_139 sp_51 rfl rfl rfl ?_
        obtain ⟨m43, gc45, h⟩ := rq_bind h
        try dsimp only at h
        have c45 : ∀ (o40 o41 o42 : Option Value), rn_R xs (d + 1) 65 158 [some (.ref 51), some (.int a1), some (.int a2), o40, o41, o42] [] (rn_SH, m43) r τ := by
          intro o40 o41 o42
          obtain ⟨x44, ex44, h⟩ := rq_bv h
          refine rx_inc (w := 1) (v := x44) (L2 := [some (.ref 51), some (.int a1), some (.int x44), o40, o41, o42]) (pc2 := 161) op65_158 rfl (by decide) ex44 rfl rfl ?_
          refine ry_go (tgt := 39) op65_161 (by decide) (by decide) ?_
          exact ih _ _ _ _ _ h
        refine ry_if_ne (tgt := 158) (pc2 := 145) op65_142 (by decide) (by decide) rfl (fun b36 => ?_) (fun b36 => ?_)
        · have gc45 := (if_pos b36).symm.trans gc45
          refine rx_p (L2 := [some (.ref 51), some (.int a1), some (.int a2), some (.long x16), o27, o28]) (S2 := [.ref 51]) (pc2 := 146) op65_145 rfl rfl ?_
          refine rx_gf (v := .long (m34.2 51 12)) (pc2 := 149) op65_146 sp_51 rfl rfl rfl ?_
          refine rx_p (L2 := [some (.ref 51), some (.int a1), some (.int a2), some (.long x16), o27, o28]) (S2 := [.long x16, .long (m34.2 51 12)]) (pc2 := 150) op65_149 rfl rfl ?_
          refine rx_p (L2 := [some (.ref 51), some (.int a1), some (.int a2), some (.long x16), o27, o28]) (S2 := [.int (lg_cmp (m34.2 51 12) x16)]) (pc2 := 151) op65_150 rfl rfl ?_
          refine ry_if_eq (tgt := 158) (pc2 := 154) op65_151 (by decide) (by decide) rfl (fun b37 => ?_) (fun b37 => ?_)
          · have gc45 := (if_pos b37).symm.trans gc45
            cases gc45
            exact c45 _ _ _
          · have gc45 := (if_neg b37).symm.trans gc45
            refine rx_p (L2 := [some (.ref 51), some (.int a1), some (.int a2), some (.long x16), o27, o28]) (S2 := [.ref 51]) (pc2 := 155) op65_154 rfl rfl ?_
            obtain ⟨m38, f39, gc45⟩ := rq_bind gc45
            try dsimp only at gc45
            refine ry_iv (p := 51) (vs := []) (T := []) (pc2 := 158) op65_155 ms_89 (by decide) rfl rfl (Nat.le_of_ble_eq_true rfl) (Nat.le_of_ble_eq_true rfl) sp_51 (se_noteUnder_ok xs (by omega)  f39) rfl ?_
            show rn_R _ _ _ _ _ [] _ _ _
            cases gc45
            exact c45 _ _ _
        · have gc45 := (if_neg b36).symm.trans gc45
          cases gc45
          exact c45 _ _ _
      · have h := (if_neg b15).symm.trans h
        cases h
        exact hr _ rfl _ _ _ _ _ _
    · have h := (if_neg b11).symm.trans h
      cases h
      exact hr _ rfl _ _ _ _ _ _
set_option maxHeartbeats 4000000 in
set_option maxRecDepth 20000 in
theorem se_run_ok (xs : List Int32) {d : Nat} (hd : 39 ≤ d) {n : Nat} {m mO : rn_Mem} (h : se_run n  m = some mO) : rn_R xs d 65 0 (rn_ent 6 [.ref 51]) [] (rn_SH, m) none (rn_SH, mO) := by
  obtain ⟨d, rfl⟩ : ∃ e, d = e + 1 := ⟨d - 1, by omega⟩
  unfold se_run at h
  show rn_R xs (d + 1) 65 0 [some (.ref 51), none, none, none, none, none] [] (rn_SH, m) none (rn_SH, mO)
  refine rx_p (L2 := [some (.ref 51), none, none, none, none, none]) (S2 := [.ref 51]) (pc2 := 1) op65_0 rfl rfl ?_
  obtain ⟨m1, f2, h⟩ := rq_bind h
  try dsimp only at h
  refine ry_iv (p := 51) (vs := []) (T := []) (pc2 := 4) op65_1 ms_66 (by decide) rfl rfl (Nat.le_of_ble_eq_true rfl) (Nat.le_of_ble_eq_true rfl) sp_51 (se_listUnseen_ok xs (by omega)  f2) rfl ?_
  show rn_R _ _ _ _ _ [] _ _ _
  refine rx_p (L2 := [some (.ref 51), none, none, none, none, none]) (S2 := [.ref 51]) (pc2 := 5) op65_4 rfl rfl ?_
  refine rx_gf (v := .ref 53) (pc2 := 8) op65_5 sp_51 rfl rfl rfl ?_
  refine rx_gf (v := .int (m1.1 53 6)) (pc2 := 11) op65_8 sp_53 rfl rfl rfl ?_
  refine rx_ic (v := 2) (pc2 := 12) op65_11 (by decide) rfl ?_
  obtain ⟨x10, gc55, h⟩ := rq_bind h
  try dsimp only at h
  have c55 : ∀ (o5 o6 o7 o8 o9 : Option Value), rn_R xs (d + 1) 65 36 [some (.ref 51), o5, o6, o7, o8, o9] [.int x10] (rn_SH, m1) none (rn_SH, mO) := by
    intro o5 o6 o7 o8 o9
    refine rx_s (L2 := [some (.ref 51), some (.int x10), o6, o7, o8, o9]) (pc2 := 37) op65_36 rfl rfl rfl ?_
    refine rx_ic (v := 0) (pc2 := 38) op65_37 (by decide) rfl ?_
    refine rx_s (L2 := [some (.ref 51), some (.int x10), some (.int 0), o7, o8, o9]) (pc2 := 39) op65_38 rfl rfl rfl ?_
    obtain ⟨m47, f54, h⟩ := rq_bind h
    refine se_run_l39_ok xs hd (fun m0 eq => ?_) _ _ _ _ _ _  f54
    subst eq
    try dsimp only at h
    intro o48 o49 o50 o51 o52 o53
    obtain rfl := Option.some.inj h
    exact ry_rv op65_164 ms_65 rfl
  refine ry_ic_ge (tgt := 19) (pc2 := 15) op65_12 (by decide) (by decide) rfl (fun b3 => ?_) (fun b3 => ?_)
  · have gc55 := (if_pos b3).symm.trans gc55
    refine rx_ic (v := 1) (pc2 := 16) op65_15 (by decide) rfl ?_
    refine ry_go (tgt := 36) op65_16 (by decide) (by decide) ?_
    cases gc55
    exact c55 _ _ _ _ _
  · have gc55 := (if_neg b3).symm.trans gc55
    refine rx_p (L2 := [some (.ref 51), none, none, none, none, none]) (S2 := [.ref 51]) (pc2 := 20) op65_19 rfl rfl ?_
    refine rx_gf (v := .ref 53) (pc2 := 23) op65_20 sp_51 rfl rfl rfl ?_
    refine rx_gf (v := .int (m1.1 53 6)) (pc2 := 26) op65_23 sp_53 rfl rfl rfl ?_
    refine rx_ic (v := 2) (pc2 := 27) op65_26 (by decide) rfl ?_
    refine ry_ic_ne (tgt := 34) (pc2 := 30) op65_27 (by decide) (by decide) rfl (fun b4 => ?_) (fun b4 => ?_)
    · have gc55 := (if_pos b4).symm.trans gc55
      refine rx_ic (v := 2) (pc2 := 31) op65_30 (by decide) rfl ?_
      refine ry_go (tgt := 36) op65_31 (by decide) (by decide) ?_
      cases gc55
      exact c55 _ _ _ _ _
    · have gc55 := (if_neg b4).symm.trans gc55
      refine rx_bp (v := 6) (pc2 := 36) op65_34 (by decide) rfl ?_
      cases gc55
      exact c55 _ _ _ _ _
/-! se_findAll -/
theorem op64_0 : rn_op 64 0 = some (.aload_n 0, 1, 0, 0, 0) := by decide +kernel
theorem op64_1 : rn_op 64 1 = some (.iconst 0, 1, 0, 0, 0) := by decide +kernel
theorem op64_2 : rn_op 64 2 = some (.putfield 76, 3, 4, 10, 0) := by decide +kernel
theorem op64_5 : rn_op 64 5 = some (.aload_n 0, 1, 0, 0, 0) := by decide +kernel
theorem op64_6 : rn_op 64 6 = some (.lconst 0, 1, 0, 0, 0) := by decide +kernel
theorem op64_7 : rn_op 64 7 = some (.putfield 80, 3, 4, 12, 1) := by decide +kernel
theorem op64_10 : rn_op 64 10 = some (.aload_n 0, 1, 0, 0, 0) := by decide +kernel
theorem op64_11 : rn_op 64 11 = some (.ldc2_w 84, 3, 18446744073709551615, 0, 0) := by decide +kernel
theorem op64_14 : rn_op 64 14 = some (.putfield 86, 3, 4, 13, 1) := by decide +kernel
theorem op64_17 : rn_op 64 17 = some (.aload_n 0, 1, 0, 0, 0) := by decide +kernel
theorem op64_18 : rn_op 64 18 = some (.lconst 0, 1, 0, 0, 0) := by decide +kernel
theorem op64_19 : rn_op 64 19 = some (.putfield 89, 3, 4, 14, 1) := by decide +kernel
theorem op64_22 : rn_op 64 22 = some (.aload_n 0, 1, 0, 0, 0) := by decide +kernel
theorem op64_23 : rn_op 64 23 = some (.iconst 0, 1, 0, 0, 0) := by decide +kernel
theorem op64_24 : rn_op 64 24 = some (.putfield 92, 3, 4, 15, 0) := by decide +kernel
theorem op64_27 : rn_op 64 27 = some (.aload_n 0, 1, 0, 0, 0) := by decide +kernel
theorem op64_28 : rn_op 64 28 = some (.iconst 0, 1, 0, 0, 0) := by decide +kernel
theorem op64_29 : rn_op 64 29 = some (.putfield 95, 3, 4, 16, 0) := by decide +kernel
theorem op64_32 : rn_op 64 32 = some (.iconst 0, 1, 0, 0, 0) := by decide +kernel
theorem op64_33 : rn_op 64 33 = some (.istore_n 1, 1, 0, 0, 0) := by decide +kernel
theorem op64_34 : rn_op 64 34 = some (.iload_n 1, 1, 0, 0, 0) := by decide +kernel
theorem op64_35 : rn_op 64 35 = some (.iconst 3, 1, 0, 0, 0) := by decide +kernel
theorem op64_36 : rn_op 64 36 = some (.if_icmp .ge 16, 3, 0, 0, 0) := by decide +kernel
theorem op64_39 : rn_op 64 39 = some (.aload_n 0, 1, 0, 0, 0) := by decide +kernel
theorem op64_40 : rn_op 64 40 = some (.getfield 54, 3, 4, 18, 3) := by decide +kernel
theorem op64_43 : rn_op 64 43 = some (.iload_n 1, 1, 0, 0, 0) := by decide +kernel
theorem op64_44 : rn_op 64 44 = some (.iconst 0, 1, 0, 0, 0) := by decide +kernel
theorem op64_45 : rn_op 64 45 = some (.iastore, 1, 0, 0, 0) := by decide +kernel
theorem op64_46 : rn_op 64 46 = some (.iinc 1 1, 3, 0, 0, 0) := by decide +kernel
theorem op64_49 : rn_op 64 49 = some (.goto (-15), 3, 0, 0, 0) := by decide +kernel
theorem op64_52 : rn_op 64 52 = some (.aload_n 0, 1, 0, 0, 0) := by decide +kernel
theorem op64_53 : rn_op 64 53 = some (.invokevirtual 98, 3, 65, 1, 4) := by decide +kernel
theorem op64_56 : rn_op 64 56 = some (.return_, 1, 0, 0, 0) := by decide +kernel
def se_findAll_l34  : Nat → Int32 → rn_Mem → Option (rn_Mem)
  | 0, _, _ => none
  | n + 1, a1, m =>
    if a1 < 3 then
      if rn_in a1 3 = true then
        (some (rm_i m 68 a1.toNatClampNeg 0)).bind fun (m8 : rn_Mem) =>
        (some (a1 + 1)).bind fun (x10 : Int32) =>
        se_findAll_l34 n x10 m8
      else none
    else
      some m
def se_findAll (n : Nat)  (m : rn_Mem) : Option (rn_Mem) :=
  (some (rm_i m 51 10 0)).bind fun (m1 : rn_Mem) =>
  (some (rm_j m1 51 12 0)).bind fun (m2 : rn_Mem) =>
  (some (rm_j m2 51 13 (-1))).bind fun (m3 : rn_Mem) =>
  (some (rm_j m3 51 14 0)).bind fun (m4 : rn_Mem) =>
  (some (rm_i m4 51 15 0)).bind fun (m5 : rn_Mem) =>
  (some (rm_i m5 51 16 0)).bind fun (m6 : rn_Mem) =>
  (se_findAll_l34 n 0 m6).bind fun m11 =>
  (se_run n m11).bind fun m13 =>
  some m13
set_option maxHeartbeats 4000000 in
set_option maxRecDepth 20000 in
theorem se_findAll_l34_ok (xs : List Int32) {d : Nat} (hd : 40 ≤ d + 1) {r : Option Value} {τ : rn_H} {out : rn_Mem} (hr : ∀ (mO : rn_Mem), out = mO → ∀ (o1 : Option Value), rn_R xs (d + 1) 64 52 [some (.ref 51), o1] [] (rn_SH, mO) r τ) : ∀ (n : Nat) (a1 : Int32) (m : rn_Mem), se_findAll_l34 n a1 m = some out → rn_R xs (d + 1) 64 34 [some (.ref 51), some (.int a1)] [] (rn_SH, m) r τ := by
  intro n
  induction n with
  | zero =>
    intro _ _ h
    cases h
  | succ n ih =>
    intro a1 m h
    unfold se_findAll_l34 at h
    try dsimp only at h
    refine rx_p (L2 := [some (.ref 51), some (.int a1)]) (S2 := [.int a1]) (pc2 := 35) op64_34 rfl rfl ?_
    refine rx_ic (v := 3) (pc2 := 36) op64_35 (by decide) rfl ?_
    refine ry_ic_ge (tgt := 52) (pc2 := 39) op64_36 (by decide) (by decide) rfl (fun b7 => ?_) (fun b7 => ?_)
    · have h := (if_pos b7).symm.trans h
      refine rx_p (L2 := [some (.ref 51), some (.int a1)]) (S2 := [.ref 51]) (pc2 := 40) op64_39 rfl rfl ?_
      refine rx_gf (v := .ref 68) (pc2 := 43) op64_40 sp_51 rfl rfl rfl ?_
      refine rx_p (L2 := [some (.ref 51), some (.int a1)]) (S2 := [.int a1, .ref 68]) (pc2 := 44) op64_43 rfl rfl ?_
      refine rx_ic (v := 0) (pc2 := 45) op64_44 (by decide) rfl ?_
      obtain ⟨k9, h⟩ := rq_chk h
      obtain ⟨m8, em8, h⟩ := rq_bv h
      refine rx_is (m2 := m8) (pc2 := 46) op64_45 sp_68 k9 rfl em8 rfl ?_
      obtain ⟨x10, ex10, h⟩ := rq_bv h
      refine rx_inc (w := 1) (v := x10) (L2 := [some (.ref 51), some (.int x10)]) (pc2 := 49) op64_46 rfl (by decide) ex10 rfl rfl ?_
      refine ry_go (tgt := 34) op64_49 (by decide) (by decide) ?_
      exact ih _ _ h
    · have h := (if_neg b7).symm.trans h
      cases h
      exact hr _ rfl _
set_option maxHeartbeats 4000000 in
set_option maxRecDepth 20000 in
theorem se_findAll_ok (xs : List Int32) {d : Nat} (hd : 40 ≤ d) {n : Nat} {m mO : rn_Mem} (h : se_findAll n  m = some mO) : rn_R xs d 64 0 (rn_ent 2 [.ref 51]) [] (rn_SH, m) none (rn_SH, mO) := by
  obtain ⟨d, rfl⟩ : ∃ e, d = e + 1 := ⟨d - 1, by omega⟩
  unfold se_findAll at h
  show rn_R xs (d + 1) 64 0 [some (.ref 51), none] [] (rn_SH, m) none (rn_SH, mO)
  refine rx_p (L2 := [some (.ref 51), none]) (S2 := [.ref 51]) (pc2 := 1) op64_0 rfl rfl ?_
  refine rx_ic (v := 0) (pc2 := 2) op64_1 (by decide) rfl ?_
  obtain ⟨m1, em1, h⟩ := rq_bv h
  refine rx_pf (m2 := m1) (pc2 := 5) op64_2 sp_51 rfl em1 rfl ?_
  refine rx_p (L2 := [some (.ref 51), none]) (S2 := [.ref 51]) (pc2 := 6) op64_5 rfl rfl ?_
  refine rx_lc (v := 0) (pc2 := 7) op64_6 (by decide) rfl ?_
  obtain ⟨m2, em2, h⟩ := rq_bv h
  refine rx_pj (m2 := m2) (pc2 := 10) op64_7 sp_51 rfl em2 rfl ?_
  refine rx_p (L2 := [some (.ref 51), none]) (S2 := [.ref 51]) (pc2 := 11) op64_10 rfl rfl ?_
  refine rx_ld2 (v := (-1)) (pc2 := 14) op64_11 (by decide) rfl ?_
  obtain ⟨m3, em3, h⟩ := rq_bv h
  refine rx_pj (m2 := m3) (pc2 := 17) op64_14 sp_51 rfl em3 rfl ?_
  refine rx_p (L2 := [some (.ref 51), none]) (S2 := [.ref 51]) (pc2 := 18) op64_17 rfl rfl ?_
  refine rx_lc (v := 0) (pc2 := 19) op64_18 (by decide) rfl ?_
  obtain ⟨m4, em4, h⟩ := rq_bv h
  refine rx_pj (m2 := m4) (pc2 := 22) op64_19 sp_51 rfl em4 rfl ?_
  refine rx_p (L2 := [some (.ref 51), none]) (S2 := [.ref 51]) (pc2 := 23) op64_22 rfl rfl ?_
  refine rx_ic (v := 0) (pc2 := 24) op64_23 (by decide) rfl ?_
  obtain ⟨m5, em5, h⟩ := rq_bv h
  refine rx_pf (m2 := m5) (pc2 := 27) op64_24 sp_51 rfl em5 rfl ?_
  refine rx_p (L2 := [some (.ref 51), none]) (S2 := [.ref 51]) (pc2 := 28) op64_27 rfl rfl ?_
  refine rx_ic (v := 0) (pc2 := 29) op64_28 (by decide) rfl ?_
  obtain ⟨m6, em6, h⟩ := rq_bv h
  refine rx_pf (m2 := m6) (pc2 := 32) op64_29 sp_51 rfl em6 rfl ?_
  refine rx_ic (v := 0) (pc2 := 33) op64_32 (by decide) rfl ?_
  refine rx_s (L2 := [some (.ref 51), some (.int 0)]) (pc2 := 34) op64_33 rfl rfl rfl ?_
  obtain ⟨m11, f15, h⟩ := rq_bind h
  refine se_findAll_l34_ok xs hd (fun m0 eq => ?_) _ _ _  f15
  subst eq
  try dsimp only at h
  intro o12
  refine rx_p (L2 := [some (.ref 51), o12]) (S2 := [.ref 51]) (pc2 := 53) op64_52 rfl rfl ?_
  obtain ⟨m13, f14, h⟩ := rq_bind h
  try dsimp only at h
  refine ry_iv (p := 51) (vs := []) (T := []) (pc2 := 56) op64_53 ms_65 (by decide) rfl rfl (Nat.le_of_ble_eq_true rfl) (Nat.le_of_ble_eq_true rfl) sp_51 (se_run_ok xs (by omega)  f14) rfl ?_
  show rn_R _ _ _ _ _ [] _ _ _
  obtain rfl := Option.some.inj h
  exact ry_rv op64_56 ms_64 rfl
/-! lt_survey -/
theorem op61_0 : rn_op 61 0 = some (.aload_n 0, 1, 0, 0, 0) := by decide +kernel
theorem op61_1 : rn_op 61 1 = some (.getfield 81, 3, 10, 8, 0) := by decide +kernel
theorem op61_4 : rn_op 61 4 = some (.iconst 1, 1, 0, 0, 0) := by decide +kernel
theorem op61_5 : rn_op 61 5 = some (.iand, 1, 0, 0, 0) := by decide +kernel
theorem op61_6 : rn_op 61 6 = some (.ifCond .ne 31, 3, 0, 0, 0) := by decide +kernel
theorem op61_9 : rn_op 61 9 = some (.aload_n 0, 1, 0, 0, 0) := by decide +kernel
theorem op61_10 : rn_op 61 10 = some (.getfield 32, 3, 10, 4, 3) := by decide +kernel
theorem op61_13 : rn_op 61 13 = some (.aload_n 0, 1, 0, 0, 0) := by decide +kernel
theorem op61_14 : rn_op 61 14 = some (.getfield 19, 3, 10, 1, 3) := by decide +kernel
theorem op61_17 : rn_op 61 17 = some (.invokevirtual 213, 3, 62, 2, 4) := by decide +kernel
theorem op61_20 : rn_op 61 20 = some (.aload_n 0, 1, 0, 0, 0) := by decide +kernel
theorem op61_21 : rn_op 61 21 = some (.getfield 32, 3, 10, 4, 3) := by decide +kernel
theorem op61_24 : rn_op 61 24 = some (.invokevirtual 311, 3, 64, 1, 4) := by decide +kernel
theorem op61_27 : rn_op 61 27 = some (.aload_n 0, 1, 0, 0, 0) := by decide +kernel
theorem op61_28 : rn_op 61 28 = some (.dup, 1, 0, 0, 0) := by decide +kernel
theorem op61_29 : rn_op 61 29 = some (.getfield 81, 3, 10, 8, 0) := by decide +kernel
theorem op61_32 : rn_op 61 32 = some (.iconst 1, 1, 0, 0, 0) := by decide +kernel
theorem op61_33 : rn_op 61 33 = some (.ior, 1, 0, 0, 0) := by decide +kernel
theorem op61_34 : rn_op 61 34 = some (.putfield 81, 3, 10, 8, 0) := by decide +kernel
theorem op61_37 : rn_op 61 37 = some (.return_, 1, 0, 0, 0) := by decide +kernel
def lt_survey (n : Nat)  (m : rn_Mem) : Option (rn_Mem) :=
  if ((m.1 0 8) &&& 1) = 0 then
    (se_take n 3 m).bind fun m2 =>
    (se_findAll n m2).bind fun m4 =>
    (some (rm_i m4 0 8 ((m4.1 0 8) ||| 1))).bind fun (m6 : rn_Mem) =>
    some m6
  else
    some m
set_option maxHeartbeats 4000000 in
set_option maxRecDepth 20000 in
theorem lt_survey_ok (xs : List Int32) {d : Nat} (hd : 41 ≤ d) {n : Nat} {m mO : rn_Mem} (h : lt_survey n  m = some mO) : rn_R xs d 61 0 (rn_ent 1 [.ref 0]) [] (rn_SH, m) none (rn_SH, mO) := by
  obtain ⟨d, rfl⟩ : ∃ e, d = e + 1 := ⟨d - 1, by omega⟩
  unfold lt_survey at h
  show rn_R xs (d + 1) 61 0 [some (.ref 0)] [] (rn_SH, m) none (rn_SH, mO)
  refine rx_p (L2 := [some (.ref 0)]) (S2 := [.ref 0]) (pc2 := 1) op61_0 rfl rfl ?_
  refine rx_gf (v := .int (m.1 0 8)) (pc2 := 4) op61_1 sp_0 rfl rfl rfl ?_
  refine rx_ic (v := 1) (pc2 := 5) op61_4 (by decide) rfl ?_
  refine rx_p (L2 := [some (.ref 0)]) (S2 := [.int ((m.1 0 8) &&& 1)]) (pc2 := 6) op61_5 rfl rfl ?_
  refine ry_if_ne (tgt := 37) (pc2 := 9) op61_6 (by decide) (by decide) rfl (fun b1 => ?_) (fun b1 => ?_)
  · have h := (if_pos b1).symm.trans h
    refine rx_p (L2 := [some (.ref 0)]) (S2 := [.ref 0]) (pc2 := 10) op61_9 rfl rfl ?_
    refine rx_gf (v := .ref 51) (pc2 := 13) op61_10 sp_0 rfl rfl rfl ?_
    refine rx_p (L2 := [some (.ref 0)]) (S2 := [.ref 0, .ref 51]) (pc2 := 14) op61_13 rfl rfl ?_
    refine rx_gf (v := .ref 3) (pc2 := 17) op61_14 sp_0 rfl rfl rfl ?_
    obtain ⟨m2, f3, h⟩ := rq_bind h
    try dsimp only at h
    refine ry_iv (p := 51) (vs := [.ref 3]) (T := []) (pc2 := 20) op61_17 ms_62 (by decide) rfl rfl (Nat.le_of_ble_eq_true rfl) (Nat.le_of_ble_eq_true rfl) sp_51 (se_take_ok xs (by omega) sa_3 f3) rfl ?_
    show rn_R _ _ _ _ _ [] _ _ _
    refine rx_p (L2 := [some (.ref 0)]) (S2 := [.ref 0]) (pc2 := 21) op61_20 rfl rfl ?_
    refine rx_gf (v := .ref 51) (pc2 := 24) op61_21 sp_0 rfl rfl rfl ?_
    obtain ⟨m4, f5, h⟩ := rq_bind h
    try dsimp only at h
    refine ry_iv (p := 51) (vs := []) (T := []) (pc2 := 27) op61_24 ms_64 (by decide) rfl rfl (Nat.le_of_ble_eq_true rfl) (Nat.le_of_ble_eq_true rfl) sp_51 (se_findAll_ok xs (by omega)  f5) rfl ?_
    show rn_R _ _ _ _ _ [] _ _ _
    refine rx_p (L2 := [some (.ref 0)]) (S2 := [.ref 0]) (pc2 := 28) op61_27 rfl rfl ?_
    refine rx_p (L2 := [some (.ref 0)]) (S2 := [.ref 0, .ref 0]) (pc2 := 29) op61_28 rfl rfl ?_
    refine rx_gf (v := .int (m4.1 0 8)) (pc2 := 32) op61_29 sp_0 rfl rfl rfl ?_
    refine rx_ic (v := 1) (pc2 := 33) op61_32 (by decide) rfl ?_
    refine rx_p (L2 := [some (.ref 0)]) (S2 := [.int ((m4.1 0 8) ||| 1), .ref 0]) (pc2 := 34) op61_33 rfl rfl ?_
    obtain ⟨m6, em6, h⟩ := rq_bv h
    refine rx_pf (m2 := m6) (pc2 := 37) op61_34 sp_0 rfl em6 rfl ?_
    obtain rfl := Option.some.inj h
    exact ry_rv op61_37 ms_61 rfl
  · have h := (if_neg b1).symm.trans h
    obtain rfl := Option.some.inj h
    exact ry_rv op61_37 ms_61 rfl
/-! lt_plays -/
theorem op60_0 : rn_op 60 0 = some (.aload_n 0, 1, 0, 0, 0) := by decide +kernel
theorem op60_1 : rn_op 60 1 = some (.getfield 19, 3, 10, 1, 3) := by decide +kernel
theorem op60_4 : rn_op 60 4 = some (.getfield 93, 3, 6, 1, 3) := by decide +kernel
theorem op60_7 : rn_op 60 7 = some (.getfield 136, 3, 7, 0, 2) := by decide +kernel
theorem op60_10 : rn_op 60 10 = some (.ifCond .ne 7, 3, 0, 0, 0) := by decide +kernel
theorem op60_13 : rn_op 60 13 = some (.ldc2_w 177, 3, 18446744073709551614, 0, 0) := by decide +kernel
theorem op60_16 : rn_op 60 16 = some (.lreturn, 1, 0, 0, 0) := by decide +kernel
theorem op60_17 : rn_op 60 17 = some (.aload_n 0, 1, 0, 0, 0) := by decide +kernel
theorem op60_18 : rn_op 60 18 = some (.invokevirtual 179, 3, 61, 1, 10) := by decide +kernel
theorem op60_21 : rn_op 60 21 = some (.aload_n 0, 1, 0, 0, 0) := by decide +kernel
theorem op60_22 : rn_op 60 22 = some (.getfield 32, 3, 10, 4, 3) := by decide +kernel
theorem op60_25 : rn_op 60 25 = some (.getfield 182, 3, 4, 12, 1) := by decide +kernel
theorem op60_28 : rn_op 60 28 = some (.lreturn, 1, 0, 0, 0) := by decide +kernel
def lt_plays (n : Nat)  (m : rn_Mem) : Option (Int64 × rn_Mem) :=
  if (m.1 5 0) = 0 then
    some ((-2), m)
  else
    (lt_survey n m).bind fun m2 =>
    some (m2.2 51 12, m2)
set_option maxHeartbeats 4000000 in
set_option maxRecDepth 20000 in
theorem lt_plays_ok (xs : List Int32) {d : Nat} (hd : 42 ≤ d) {n : Nat} {m mO : rn_Mem} {rO : Int64} (h : lt_plays n  m = some (rO, mO)) : rn_R xs d 60 0 (rn_ent 1 [.ref 0]) [] (rn_SH, m) (some (.long rO)) (rn_SH, mO) := by
  obtain ⟨d, rfl⟩ : ∃ e, d = e + 1 := ⟨d - 1, by omega⟩
  unfold lt_plays at h
  show rn_R xs (d + 1) 60 0 [some (.ref 0)] [] (rn_SH, m) (some (.long rO)) (rn_SH, mO)
  refine rx_p (L2 := [some (.ref 0)]) (S2 := [.ref 0]) (pc2 := 1) op60_0 rfl rfl ?_
  refine rx_gf (v := .ref 3) (pc2 := 4) op60_1 sp_0 rfl rfl rfl ?_
  refine rx_gf (v := .ref 5) (pc2 := 7) op60_4 sp_3 rfl rfl rfl ?_
  refine rx_gf (v := .int (m.1 5 0)) (pc2 := 10) op60_7 sp_5 rfl rfl rfl ?_
  refine ry_if_ne (tgt := 17) (pc2 := 13) op60_10 (by decide) (by decide) rfl (fun b1 => ?_) (fun b1 => ?_)
  · have h := (if_pos b1).symm.trans h
    refine rx_ld2 (v := (-2)) (pc2 := 16) op60_13 (by decide) rfl ?_
    obtain ⟨rfl, rfl⟩ := rq_ret h
    exact ry_rl op60_16 ms_60 rfl
  · have h := (if_neg b1).symm.trans h
    refine rx_p (L2 := [some (.ref 0)]) (S2 := [.ref 0]) (pc2 := 18) op60_17 rfl rfl ?_
    obtain ⟨m2, f3, h⟩ := rq_bind h
    try dsimp only at h
    refine ry_iv (p := 0) (vs := []) (T := []) (pc2 := 21) op60_18 ms_61 (by decide) rfl rfl (Nat.le_of_ble_eq_true rfl) (Nat.le_of_ble_eq_true rfl) sp_0 (lt_survey_ok xs (by omega)  f3) rfl ?_
    show rn_R _ _ _ _ _ [] _ _ _
    refine rx_p (L2 := [some (.ref 0)]) (S2 := [.ref 0]) (pc2 := 22) op60_21 rfl rfl ?_
    refine rx_gf (v := .ref 51) (pc2 := 25) op60_22 sp_0 rfl rfl rfl ?_
    refine rx_gf (v := .long (m2.2 51 12)) (pc2 := 28) op60_25 sp_51 rfl rfl rfl ?_
    obtain ⟨rfl, rfl⟩ := rq_ret h
    exact ry_rl op60_28 ms_60 rfl
/-! lt_refusalOf -/
theorem op91_0 : rn_op 91 0 = some (.iload_n 1, 1, 0, 0, 0) := by decide +kernel
theorem op91_1 : rn_op 91 1 = some (.ifCond .lt 9, 3, 0, 0, 0) := by decide +kernel
theorem op91_4 : rn_op 91 4 = some (.iload_n 1, 1, 0, 0, 0) := by decide +kernel
theorem op91_5 : rn_op 91 5 = some (.bipush 16, 2, 0, 0, 0) := by decide +kernel
theorem op91_7 : rn_op 91 7 = some (.if_icmp .lt 5, 3, 0, 0, 0) := by decide +kernel
theorem op91_10 : rn_op 91 10 = some (.iconst (-1), 1, 0, 0, 0) := by decide +kernel
theorem op91_11 : rn_op 91 11 = some (.ireturn, 1, 0, 0, 0) := by decide +kernel
theorem op91_12 : rn_op 91 12 = some (.aload_n 0, 1, 0, 0, 0) := by decide +kernel
theorem op91_13 : rn_op 91 13 = some (.getfield 19, 3, 10, 1, 3) := by decide +kernel
theorem op91_16 : rn_op 91 16 = some (.getfield 93, 3, 6, 1, 3) := by decide +kernel
theorem op91_19 : rn_op 91 19 = some (.getfield 136, 3, 7, 0, 2) := by decide +kernel
theorem op91_22 : rn_op 91 22 = some (.ifCond .ne 6, 3, 0, 0, 0) := by decide +kernel
theorem op91_25 : rn_op 91 25 = some (.bipush (-2), 2, 0, 0, 0) := by decide +kernel
theorem op91_27 : rn_op 91 27 = some (.ireturn, 1, 0, 0, 0) := by decide +kernel
theorem op91_28 : rn_op 91 28 = some (.aload_n 0, 1, 0, 0, 0) := by decide +kernel
theorem op91_29 : rn_op 91 29 = some (.getfield 19, 3, 10, 1, 3) := by decide +kernel
theorem op91_32 : rn_op 91 32 = some (.getfield 62, 3, 6, 0, 3) := by decide +kernel
theorem op91_35 : rn_op 91 35 = some (.iload_n 1, 1, 0, 0, 0) := by decide +kernel
theorem op91_36 : rn_op 91 36 = some (.invokevirtual 145, 3, 50, 2, 1) := by decide +kernel
theorem op91_39 : rn_op 91 39 = some (.ifCond .eq 7, 3, 0, 0, 0) := by decide +kernel
theorem op91_42 : rn_op 91 42 = some (.iconst 0, 1, 0, 0, 0) := by decide +kernel
theorem op91_43 : rn_op 91 43 = some (.goto 4, 3, 0, 0, 0) := by decide +kernel
theorem op91_46 : rn_op 91 46 = some (.iconst (-1), 1, 0, 0, 0) := by decide +kernel
theorem op91_47 : rn_op 91 47 = some (.ireturn, 1, 0, 0, 0) := by decide +kernel
def lt_refusalOf (n : Nat) (a1 : Int32) (m : rn_Mem) : Option (Int32 × rn_Mem) :=
  if a1 < 0 then
    some ((-1), m)
  else
    if a1 < 16 then
      if (m.1 5 0) = 0 then
        some ((-2), m)
      else
        (ga_has n 4 a1 m).bind fun (r5, m4) =>
        if r5 = 0 then
          some ((-1), m4)
        else
          some (0, m4)
    else
      some ((-1), m)
set_option maxHeartbeats 4000000 in
set_option maxRecDepth 20000 in
theorem lt_refusalOf_ok (xs : List Int32) {d : Nat} (hd : 1 ≤ d) {n : Nat} {a1 : Int32} {m mO : rn_Mem} {rO : Int32} (h : lt_refusalOf n a1 m = some (rO, mO)) : rn_R xs d 91 0 (rn_ent 2 [.ref 0, .int a1]) [] (rn_SH, m) (some (.int rO)) (rn_SH, mO) := by
  obtain ⟨d, rfl⟩ : ∃ e, d = e + 1 := ⟨d - 1, by omega⟩
  unfold lt_refusalOf at h
  show rn_R xs (d + 1) 91 0 [some (.ref 0), some (.int a1)] [] (rn_SH, m) (some (.int rO)) (rn_SH, mO)
  refine rx_p (L2 := [some (.ref 0), some (.int a1)]) (S2 := [.int a1]) (pc2 := 1) op91_0 rfl rfl ?_
  refine ry_if_lt (tgt := 10) (pc2 := 4) op91_1 (by decide) (by decide) rfl (fun b1 => ?_) (fun b1 => ?_)
  · have h := (if_pos b1).symm.trans h
    refine rx_ic (v := (-1)) (pc2 := 11) op91_10 (by decide) rfl ?_
    obtain ⟨rfl, rfl⟩ := rq_ret h
    exact ry_ri op91_11 ms_91 rfl
  · have h := (if_neg b1).symm.trans h
    refine rx_p (L2 := [some (.ref 0), some (.int a1)]) (S2 := [.int a1]) (pc2 := 5) op91_4 rfl rfl ?_
    refine rx_bp (v := 16) (pc2 := 7) op91_5 (by decide) rfl ?_
    refine ry_ic_lt (tgt := 12) (pc2 := 10) op91_7 (by decide) (by decide) rfl (fun b2 => ?_) (fun b2 => ?_)
    · have h := (if_pos b2).symm.trans h
      refine rx_p (L2 := [some (.ref 0), some (.int a1)]) (S2 := [.ref 0]) (pc2 := 13) op91_12 rfl rfl ?_
      refine rx_gf (v := .ref 3) (pc2 := 16) op91_13 sp_0 rfl rfl rfl ?_
      refine rx_gf (v := .ref 5) (pc2 := 19) op91_16 sp_3 rfl rfl rfl ?_
      refine rx_gf (v := .int (m.1 5 0)) (pc2 := 22) op91_19 sp_5 rfl rfl rfl ?_
      refine ry_if_ne (tgt := 28) (pc2 := 25) op91_22 (by decide) (by decide) rfl (fun b3 => ?_) (fun b3 => ?_)
      · have h := (if_pos b3).symm.trans h
        refine rx_bp (v := (-2)) (pc2 := 27) op91_25 (by decide) rfl ?_
        obtain ⟨rfl, rfl⟩ := rq_ret h
        exact ry_ri op91_27 ms_91 rfl
      · have h := (if_neg b3).symm.trans h
        refine rx_p (L2 := [some (.ref 0), some (.int a1)]) (S2 := [.ref 0]) (pc2 := 29) op91_28 rfl rfl ?_
        refine rx_gf (v := .ref 3) (pc2 := 32) op91_29 sp_0 rfl rfl rfl ?_
        refine rx_gf (v := .ref 4) (pc2 := 35) op91_32 sp_3 rfl rfl rfl ?_
        refine rx_p (L2 := [some (.ref 0), some (.int a1)]) (S2 := [.int a1, .ref 4]) (pc2 := 36) op91_35 rfl rfl ?_
        obtain ⟨⟨r5, m4⟩, f6, h⟩ := rq_bind h
        try dsimp only at h
        refine ry_iv (p := 4) (vs := [.int a1]) (T := []) (pc2 := 39) op91_36 ms_50 (by decide) rfl rfl (Nat.le_of_ble_eq_true rfl) (Nat.le_of_ble_eq_true rfl) sp_4 (ga_has_ok xs (by omega) sa_4 f6) rfl ?_
        show rn_R _ _ _ _ _ [.int r5] _ _ _
        refine ry_if_eq (tgt := 46) (pc2 := 42) op91_39 (by decide) (by decide) rfl (fun b7 => ?_) (fun b7 => ?_)
        · have h := (if_pos b7).symm.trans h
          refine rx_ic (v := (-1)) (pc2 := 47) op91_46 (by decide) rfl ?_
          obtain ⟨rfl, rfl⟩ := rq_ret h
          exact ry_ri op91_47 ms_91 rfl
        · have h := (if_neg b7).symm.trans h
          refine rx_ic (v := 0) (pc2 := 43) op91_42 (by decide) rfl ?_
          refine ry_go (tgt := 47) op91_43 (by decide) (by decide) ?_
          obtain ⟨rfl, rfl⟩ := rq_ret h
          exact ry_ri op91_47 ms_91 rfl
    · have h := (if_neg b2).symm.trans h
      refine rx_ic (v := (-1)) (pc2 := 11) op91_10 (by decide) rfl ?_
      obtain ⟨rfl, rfl⟩ := rq_ret h
      exact ry_ri op91_11 ms_91 rfl
/-! se_holdersOf -/
theorem op92_0 : rn_op 92 0 = some (.aload_n 0, 1, 0, 0, 0) := by decide +kernel
theorem op92_1 : rn_op 92 1 = some (.getfield 89, 3, 4, 14, 1) := by decide +kernel
theorem op92_4 : rn_op 92 4 = some (.iconst 4, 1, 0, 0, 0) := by decide +kernel
theorem op92_5 : rn_op 92 5 = some (.iload_n 1, 1, 0, 0, 0) := by decide +kernel
theorem op92_6 : rn_op 92 6 = some (.imul, 1, 0, 0, 0) := by decide +kernel
theorem op92_7 : rn_op 92 7 = some (.lshr, 1, 0, 0, 0) := by decide +kernel
theorem op92_8 : rn_op 92 8 = some (.l2i, 1, 0, 0, 0) := by decide +kernel
theorem op92_9 : rn_op 92 9 = some (.bipush 15, 2, 0, 0, 0) := by decide +kernel
theorem op92_11 : rn_op 92 11 = some (.iand, 1, 0, 0, 0) := by decide +kernel
theorem op92_12 : rn_op 92 12 = some (.ireturn, 1, 0, 0, 0) := by decide +kernel
def se_holdersOf (n : Nat) (a1 : Int32) (m : rn_Mem) : Option (Int32 × rn_Mem) :=
  some ((((m.2 51 14) >>> (((4 : Int32) * a1).toInt64 &&& 63)).toInt32) &&& 15, m)
set_option maxHeartbeats 4000000 in
set_option maxRecDepth 20000 in
theorem se_holdersOf_ok (xs : List Int32) {d : Nat} (hd : 0 ≤ d) {n : Nat} {a1 : Int32} {m mO : rn_Mem} {rO : Int32} (h : se_holdersOf n a1 m = some (rO, mO)) : rn_R xs d 92 0 (rn_ent 2 [.ref 51, .int a1]) [] (rn_SH, m) (some (.int rO)) (rn_SH, mO) := by
  unfold se_holdersOf at h
  show rn_R xs d 92 0 [some (.ref 51), some (.int a1)] [] (rn_SH, m) (some (.int rO)) (rn_SH, mO)
  refine rx_p (L2 := [some (.ref 51), some (.int a1)]) (S2 := [.ref 51]) (pc2 := 1) op92_0 rfl rfl ?_
  refine rx_gf (v := .long (m.2 51 14)) (pc2 := 4) op92_1 sp_51 rfl rfl rfl ?_
  refine rx_ic (v := 4) (pc2 := 5) op92_4 (by decide) rfl ?_
  refine rx_p (L2 := [some (.ref 51), some (.int a1)]) (S2 := [.int a1, .int 4, .long (m.2 51 14)]) (pc2 := 6) op92_5 rfl rfl ?_
  refine rx_p (L2 := [some (.ref 51), some (.int a1)]) (S2 := [.int ((4 : Int32) * a1), .long (m.2 51 14)]) (pc2 := 7) op92_6 rfl rfl ?_
  refine rx_p (L2 := [some (.ref 51), some (.int a1)]) (S2 := [.long ((m.2 51 14) >>> (((4 : Int32) * a1).toInt64 &&& 63))]) (pc2 := 8) op92_7 rfl rfl ?_
  refine rx_p (L2 := [some (.ref 51), some (.int a1)]) (S2 := [.int (((m.2 51 14) >>> (((4 : Int32) * a1).toInt64 &&& 63)).toInt32)]) (pc2 := 9) op92_8 rfl rfl ?_
  refine rx_bp (v := 15) (pc2 := 11) op92_9 (by decide) rfl ?_
  refine rx_p (L2 := [some (.ref 51), some (.int a1)]) (S2 := [.int ((((m.2 51 14) >>> (((4 : Int32) * a1).toInt64 &&& 63)).toInt32) &&& 15)]) (pc2 := 12) op92_11 rfl rfl ?_
  obtain ⟨rfl, rfl⟩ := rq_ret h
  exact ry_ri op92_12 ms_92 rfl
/-! lt_may -/
theorem op90_0 : rn_op 90 0 = some (.aload_n 0, 1, 0, 0, 0) := by decide +kernel
theorem op90_1 : rn_op 90 1 = some (.iload_n 1, 1, 0, 0, 0) := by decide +kernel
theorem op90_2 : rn_op 90 2 = some (.invokevirtual 186, 3, 91, 2, 10) := by decide +kernel
theorem op90_5 : rn_op 90 5 = some (.istore_n 2, 1, 0, 0, 0) := by decide +kernel
theorem op90_6 : rn_op 90 6 = some (.iload_n 2, 1, 0, 0, 0) := by decide +kernel
theorem op90_7 : rn_op 90 7 = some (.ifCond .eq 5, 3, 0, 0, 0) := by decide +kernel
theorem op90_10 : rn_op 90 10 = some (.iload_n 2, 1, 0, 0, 0) := by decide +kernel
theorem op90_11 : rn_op 90 11 = some (.ireturn, 1, 0, 0, 0) := by decide +kernel
theorem op90_12 : rn_op 90 12 = some (.aload_n 0, 1, 0, 0, 0) := by decide +kernel
theorem op90_13 : rn_op 90 13 = some (.invokevirtual 179, 3, 61, 1, 10) := by decide +kernel
theorem op90_16 : rn_op 90 16 = some (.aload_n 0, 1, 0, 0, 0) := by decide +kernel
theorem op90_17 : rn_op 90 17 = some (.getfield 32, 3, 10, 4, 3) := by decide +kernel
theorem op90_20 : rn_op 90 20 = some (.iload_n 1, 1, 0, 0, 0) := by decide +kernel
theorem op90_21 : rn_op 90 21 = some (.invokevirtual 189, 3, 92, 2, 4) := by decide +kernel
theorem op90_24 : rn_op 90 24 = some (.ireturn, 1, 0, 0, 0) := by decide +kernel
def lt_may (n : Nat) (a1 : Int32) (m : rn_Mem) : Option (Int32 × rn_Mem) :=
  (lt_refusalOf n a1 m).bind fun (r2, m1) =>
  if r2 = 0 then
    (lt_survey n m1).bind fun m5 =>
    (se_holdersOf n a1 m5).bind fun (r8, m7) =>
    some (r8, m7)
  else
    some (r2, m1)
set_option maxHeartbeats 4000000 in
set_option maxRecDepth 20000 in
theorem lt_may_ok (xs : List Int32) {d : Nat} (hd : 42 ≤ d) {n : Nat} {a1 : Int32} {m mO : rn_Mem} {rO : Int32} (h : lt_may n a1 m = some (rO, mO)) : rn_R xs d 90 0 (rn_ent 3 [.ref 0, .int a1]) [] (rn_SH, m) (some (.int rO)) (rn_SH, mO) := by
  obtain ⟨d, rfl⟩ : ∃ e, d = e + 1 := ⟨d - 1, by omega⟩
  unfold lt_may at h
  show rn_R xs (d + 1) 90 0 [some (.ref 0), some (.int a1), none] [] (rn_SH, m) (some (.int rO)) (rn_SH, mO)
  refine rx_p (L2 := [some (.ref 0), some (.int a1), none]) (S2 := [.ref 0]) (pc2 := 1) op90_0 rfl rfl ?_
  refine rx_p (L2 := [some (.ref 0), some (.int a1), none]) (S2 := [.int a1, .ref 0]) (pc2 := 2) op90_1 rfl rfl ?_
  obtain ⟨⟨r2, m1⟩, f3, h⟩ := rq_bind h
  try dsimp only at h
  refine ry_iv (p := 0) (vs := [.int a1]) (T := []) (pc2 := 5) op90_2 ms_91 (by decide) rfl rfl (Nat.le_of_ble_eq_true rfl) (Nat.le_of_ble_eq_true rfl) sp_0 (lt_refusalOf_ok xs (by omega)  f3) rfl ?_
  show rn_R _ _ _ _ _ [.int r2] _ _ _
  refine rx_s (L2 := [some (.ref 0), some (.int a1), some (.int r2)]) (pc2 := 6) op90_5 rfl rfl rfl ?_
  refine rx_p (L2 := [some (.ref 0), some (.int a1), some (.int r2)]) (S2 := [.int r2]) (pc2 := 7) op90_6 rfl rfl ?_
  refine ry_if_eq (tgt := 12) (pc2 := 10) op90_7 (by decide) (by decide) rfl (fun b4 => ?_) (fun b4 => ?_)
  · have h := (if_pos b4).symm.trans h
    refine rx_p (L2 := [some (.ref 0), some (.int a1), some (.int r2)]) (S2 := [.ref 0]) (pc2 := 13) op90_12 rfl rfl ?_
    obtain ⟨m5, f6, h⟩ := rq_bind h
    try dsimp only at h
    refine ry_iv (p := 0) (vs := []) (T := []) (pc2 := 16) op90_13 ms_61 (by decide) rfl rfl (Nat.le_of_ble_eq_true rfl) (Nat.le_of_ble_eq_true rfl) sp_0 (lt_survey_ok xs (by omega)  f6) rfl ?_
    show rn_R _ _ _ _ _ [] _ _ _
    refine rx_p (L2 := [some (.ref 0), some (.int a1), some (.int r2)]) (S2 := [.ref 0]) (pc2 := 17) op90_16 rfl rfl ?_
    refine rx_gf (v := .ref 51) (pc2 := 20) op90_17 sp_0 rfl rfl rfl ?_
    refine rx_p (L2 := [some (.ref 0), some (.int a1), some (.int r2)]) (S2 := [.int a1, .ref 51]) (pc2 := 21) op90_20 rfl rfl ?_
    obtain ⟨⟨r8, m7⟩, f9, h⟩ := rq_bind h
    try dsimp only at h
    refine ry_iv (p := 51) (vs := [.int a1]) (T := []) (pc2 := 24) op90_21 ms_92 (by decide) rfl rfl (Nat.le_of_ble_eq_true rfl) (Nat.le_of_ble_eq_true rfl) sp_51 (se_holdersOf_ok xs (by omega)  f9) rfl ?_
    show rn_R _ _ _ _ _ [.int r8] _ _ _
    obtain ⟨rfl, rfl⟩ := rq_ret h
    exact ry_ri op90_24 ms_90 rfl
  · have h := (if_neg b4).symm.trans h
    refine rx_p (L2 := [some (.ref 0), some (.int a1), some (.int r2)]) (S2 := [.int r2]) (pc2 := 11) op90_10 rfl rfl ?_
    obtain ⟨rfl, rfl⟩ := rq_ret h
    exact ry_ri op90_11 ms_90 rfl
/-! lt_sure -/
theorem op93_0 : rn_op 93 0 = some (.aload_n 0, 1, 0, 0, 0) := by decide +kernel
theorem op93_1 : rn_op 93 1 = some (.iload_n 1, 1, 0, 0, 0) := by decide +kernel
theorem op93_2 : rn_op 93 2 = some (.invokevirtual 186, 3, 91, 2, 10) := by decide +kernel
theorem op93_5 : rn_op 93 5 = some (.istore_n 2, 1, 0, 0, 0) := by decide +kernel
theorem op93_6 : rn_op 93 6 = some (.iload_n 2, 1, 0, 0, 0) := by decide +kernel
theorem op93_7 : rn_op 93 7 = some (.ifCond .eq 5, 3, 0, 0, 0) := by decide +kernel
theorem op93_10 : rn_op 93 10 = some (.iload_n 2, 1, 0, 0, 0) := by decide +kernel
theorem op93_11 : rn_op 93 11 = some (.ireturn, 1, 0, 0, 0) := by decide +kernel
theorem op93_12 : rn_op 93 12 = some (.aload_n 0, 1, 0, 0, 0) := by decide +kernel
theorem op93_13 : rn_op 93 13 = some (.invokevirtual 179, 3, 61, 1, 10) := by decide +kernel
theorem op93_16 : rn_op 93 16 = some (.aload_n 0, 1, 0, 0, 0) := by decide +kernel
theorem op93_17 : rn_op 93 17 = some (.getfield 32, 3, 10, 4, 3) := by decide +kernel
theorem op93_20 : rn_op 93 20 = some (.iload_n 1, 1, 0, 0, 0) := by decide +kernel
theorem op93_21 : rn_op 93 21 = some (.invokevirtual 189, 3, 92, 2, 4) := by decide +kernel
theorem op93_24 : rn_op 93 24 = some (.istore_n 3, 1, 0, 0, 0) := by decide +kernel
theorem op93_25 : rn_op 93 25 = some (.iconst 0, 1, 0, 0, 0) := by decide +kernel
theorem op93_26 : rn_op 93 26 = some (.istore 4, 2, 0, 0, 0) := by decide +kernel
theorem op93_28 : rn_op 93 28 = some (.iload 4, 2, 0, 0, 0) := by decide +kernel
theorem op93_30 : rn_op 93 30 = some (.iconst 4, 1, 0, 0, 0) := by decide +kernel
theorem op93_31 : rn_op 93 31 = some (.if_icmp .ge 20, 3, 0, 0, 0) := by decide +kernel
theorem op93_34 : rn_op 93 34 = some (.iload_n 3, 1, 0, 0, 0) := by decide +kernel
theorem op93_35 : rn_op 93 35 = some (.iconst 1, 1, 0, 0, 0) := by decide +kernel
theorem op93_36 : rn_op 93 36 = some (.iload 4, 2, 0, 0, 0) := by decide +kernel
theorem op93_38 : rn_op 93 38 = some (.ishl, 1, 0, 0, 0) := by decide +kernel
theorem op93_39 : rn_op 93 39 = some (.if_icmp .ne 6, 3, 0, 0, 0) := by decide +kernel
theorem op93_42 : rn_op 93 42 = some (.iload 4, 2, 0, 0, 0) := by decide +kernel
theorem op93_44 : rn_op 93 44 = some (.ireturn, 1, 0, 0, 0) := by decide +kernel
theorem op93_45 : rn_op 93 45 = some (.iinc 4 1, 3, 0, 0, 0) := by decide +kernel
theorem op93_48 : rn_op 93 48 = some (.goto (-20), 3, 0, 0, 0) := by decide +kernel
theorem op93_51 : rn_op 93 51 = some (.bipush (-4), 2, 0, 0, 0) := by decide +kernel
theorem op93_53 : rn_op 93 53 = some (.ireturn, 1, 0, 0, 0) := by decide +kernel
def lt_sure_l28 (a3 : Int32) : Nat → Int32 → rn_Mem → Option ((Int32 × rn_Mem) ⊕ (rn_Mem))
  | 0, _, _ => none
  | n + 1, a4, m =>
    if a4 < 4 then
      if a3 = ((1 : Int32) <<< (a4 &&& 31)) then
        some (.inl (a4, m))
      else
        (some (a4 + 1)).bind fun (x12 : Int32) =>
        lt_sure_l28 a3 n x12 m
    else
      some (.inr m)
def lt_sure (n : Nat) (a1 : Int32) (m : rn_Mem) : Option (Int32 × rn_Mem) :=
  (lt_refusalOf n a1 m).bind fun (r2, m1) =>
  if r2 = 0 then
    (lt_survey n m1).bind fun m5 =>
    (se_holdersOf n a1 m5).bind fun (r8, m7) =>
    (lt_sure_l28 r8 n 0 m7).bind fun q => match q with
    | .inl o => some o
    | .inr m13 =>
    some ((-4), m13)
  else
    some (r2, m1)
set_option maxHeartbeats 4000000 in
set_option maxRecDepth 20000 in
theorem lt_sure_l28_ok (xs : List Int32) {d : Nat} (hd : 42 ≤ d + 1) {a3 : Int32} {r : Option Value} {τ : rn_H} {out : (Int32 × rn_Mem) ⊕ (rn_Mem)} (hl : ∀ (rO : Int32) (mO : rn_Mem), out = .inl (rO, mO) → r = (some (.int rO)) ∧ τ = (rn_SH, mO)) (hr : ∀ (mO : rn_Mem), out = .inr mO → ∀ (o0 o1 o2 o3 o4 : Option Value), rn_R xs (d + 1) 93 51 [o0, o1, o2, o3, o4] [] (rn_SH, mO) r τ) : ∀ (n : Nat) (a4 : Int32) (o0 o1 o2 : Option Value) (m : rn_Mem), lt_sure_l28 a3 n a4 m = some out → rn_R xs (d + 1) 93 28 [o0, o1, o2, some (.int a3), some (.int a4)] [] (rn_SH, m) r τ := by
  intro n
  induction n with
  | zero =>
    intro _ _ _ _ _ h
    cases h
  | succ n ih =>
    intro a4 o0 o1 o2 m h
    unfold lt_sure_l28 at h
    try dsimp only at h
    refine rx_p (L2 := [o0, o1, o2, some (.int a3), some (.int a4)]) (S2 := [.int a4]) (pc2 := 30) op93_28 rfl rfl ?_
    refine rx_ic (v := 4) (pc2 := 31) op93_30 (by decide) rfl ?_
    refine ry_ic_ge (tgt := 51) (pc2 := 34) op93_31 (by decide) (by decide) rfl (fun b10 => ?_) (fun b10 => ?_)
    · have h := (if_pos b10).symm.trans h
      refine rx_p (L2 := [o0, o1, o2, some (.int a3), some (.int a4)]) (S2 := [.int a3]) (pc2 := 35) op93_34 rfl rfl ?_
      refine rx_ic (v := 1) (pc2 := 36) op93_35 (by decide) rfl ?_
      refine rx_p (L2 := [o0, o1, o2, some (.int a3), some (.int a4)]) (S2 := [.int a4, .int 1, .int a3]) (pc2 := 38) op93_36 rfl rfl ?_
      refine rx_p (L2 := [o0, o1, o2, some (.int a3), some (.int a4)]) (S2 := [.int ((1 : Int32) <<< (a4 &&& 31)), .int a3]) (pc2 := 39) op93_38 rfl rfl ?_
      refine ry_ic_ne (tgt := 45) (pc2 := 42) op93_39 (by decide) (by decide) rfl (fun b11 => ?_) (fun b11 => ?_)
      · have h := (if_pos b11).symm.trans h
        refine rx_p (L2 := [o0, o1, o2, some (.int a3), some (.int a4)]) (S2 := [.int a4]) (pc2 := 44) op93_42 rfl rfl ?_
        cases h
        obtain ⟨rfl, rfl⟩ := hl _ _ rfl
        exact ry_ri op93_44 ms_93 rfl
      · have h := (if_neg b11).symm.trans h
        obtain ⟨x12, ex12, h⟩ := rq_bv h
        refine rx_inc (w := 1) (v := x12) (L2 := [o0, o1, o2, some (.int a3), some (.int x12)]) (pc2 := 48) op93_45 rfl (by decide) ex12 rfl rfl ?_
        refine ry_go (tgt := 28) op93_48 (by decide) (by decide) ?_
        exact ih _ _ _ _ _ h
    · have h := (if_neg b10).symm.trans h
      cases h
      exact hr _ rfl _ _ _ _ _
set_option maxHeartbeats 4000000 in
set_option maxRecDepth 20000 in
theorem lt_sure_ok (xs : List Int32) {d : Nat} (hd : 42 ≤ d) {n : Nat} {a1 : Int32} {m mO : rn_Mem} {rO : Int32} (h : lt_sure n a1 m = some (rO, mO)) : rn_R xs d 93 0 (rn_ent 5 [.ref 0, .int a1]) [] (rn_SH, m) (some (.int rO)) (rn_SH, mO) := by
  obtain ⟨d, rfl⟩ : ∃ e, d = e + 1 := ⟨d - 1, by omega⟩
  unfold lt_sure at h
  show rn_R xs (d + 1) 93 0 [some (.ref 0), some (.int a1), none, none, none] [] (rn_SH, m) (some (.int rO)) (rn_SH, mO)
  refine rx_p (L2 := [some (.ref 0), some (.int a1), none, none, none]) (S2 := [.ref 0]) (pc2 := 1) op93_0 rfl rfl ?_
  refine rx_p (L2 := [some (.ref 0), some (.int a1), none, none, none]) (S2 := [.int a1, .ref 0]) (pc2 := 2) op93_1 rfl rfl ?_
  obtain ⟨⟨r2, m1⟩, f3, h⟩ := rq_bind h
  try dsimp only at h
  refine ry_iv (p := 0) (vs := [.int a1]) (T := []) (pc2 := 5) op93_2 ms_91 (by decide) rfl rfl (Nat.le_of_ble_eq_true rfl) (Nat.le_of_ble_eq_true rfl) sp_0 (lt_refusalOf_ok xs (by omega)  f3) rfl ?_
  show rn_R _ _ _ _ _ [.int r2] _ _ _
  refine rx_s (L2 := [some (.ref 0), some (.int a1), some (.int r2), none, none]) (pc2 := 6) op93_5 rfl rfl rfl ?_
  refine rx_p (L2 := [some (.ref 0), some (.int a1), some (.int r2), none, none]) (S2 := [.int r2]) (pc2 := 7) op93_6 rfl rfl ?_
  refine ry_if_eq (tgt := 12) (pc2 := 10) op93_7 (by decide) (by decide) rfl (fun b4 => ?_) (fun b4 => ?_)
  · have h := (if_pos b4).symm.trans h
    refine rx_p (L2 := [some (.ref 0), some (.int a1), some (.int r2), none, none]) (S2 := [.ref 0]) (pc2 := 13) op93_12 rfl rfl ?_
    obtain ⟨m5, f6, h⟩ := rq_bind h
    try dsimp only at h
    refine ry_iv (p := 0) (vs := []) (T := []) (pc2 := 16) op93_13 ms_61 (by decide) rfl rfl (Nat.le_of_ble_eq_true rfl) (Nat.le_of_ble_eq_true rfl) sp_0 (lt_survey_ok xs (by omega)  f6) rfl ?_
    show rn_R _ _ _ _ _ [] _ _ _
    refine rx_p (L2 := [some (.ref 0), some (.int a1), some (.int r2), none, none]) (S2 := [.ref 0]) (pc2 := 17) op93_16 rfl rfl ?_
    refine rx_gf (v := .ref 51) (pc2 := 20) op93_17 sp_0 rfl rfl rfl ?_
    refine rx_p (L2 := [some (.ref 0), some (.int a1), some (.int r2), none, none]) (S2 := [.int a1, .ref 51]) (pc2 := 21) op93_20 rfl rfl ?_
    obtain ⟨⟨r8, m7⟩, f9, h⟩ := rq_bind h
    try dsimp only at h
    refine ry_iv (p := 51) (vs := [.int a1]) (T := []) (pc2 := 24) op93_21 ms_92 (by decide) rfl rfl (Nat.le_of_ble_eq_true rfl) (Nat.le_of_ble_eq_true rfl) sp_51 (se_holdersOf_ok xs (by omega)  f9) rfl ?_
    show rn_R _ _ _ _ _ [.int r8] _ _ _
    refine rx_s (L2 := [some (.ref 0), some (.int a1), some (.int r2), some (.int r8), none]) (pc2 := 25) op93_24 rfl rfl rfl ?_
    refine rx_ic (v := 0) (pc2 := 26) op93_25 (by decide) rfl ?_
    refine rx_s (L2 := [some (.ref 0), some (.int a1), some (.int r2), some (.int r8), some (.int 0)]) (pc2 := 28) op93_26 rfl rfl rfl ?_
    obtain ⟨wf19, f19, h⟩ := rq_bind h
    refine lt_sure_l28_ok xs hd (fun v0 m0 eq => ?_) (fun m13 eq => ?_) _ _ _ _ _ _  f19
    · subst eq
      try dsimp only at h
      cases h
      exact ⟨rfl, rfl⟩
    · subst eq
      try dsimp only at h
      intro o14 o15 o16 o17 o18
      refine rx_bp (v := (-4)) (pc2 := 53) op93_51 (by decide) rfl ?_
      obtain ⟨rfl, rfl⟩ := rq_ret h
      exact ry_ri op93_53 ms_93 rfl
  · have h := (if_neg b4).symm.trans h
    refine rx_p (L2 := [some (.ref 0), some (.int a1), some (.int r2), none, none]) (S2 := [.int r2]) (pc2 := 11) op93_10 rfl rfl ?_
    obtain ⟨rfl, rfl⟩ := rq_ret h
    exact ry_ri op93_11 ms_93 rfl
/-! ta_unseenAhead -/
theorem op95_0 : rn_op 95 0 = some (.iconst 0, 1, 0, 0, 0) := by decide +kernel
theorem op95_1 : rn_op 95 1 = some (.istore_n 3, 1, 0, 0, 0) := by decide +kernel
theorem op95_2 : rn_op 95 2 = some (.iconst 0, 1, 0, 0, 0) := by decide +kernel
theorem op95_3 : rn_op 95 3 = some (.istore 4, 2, 0, 0, 0) := by decide +kernel
theorem op95_5 : rn_op 95 5 = some (.iload 4, 2, 0, 0, 0) := by decide +kernel
theorem op95_7 : rn_op 95 7 = some (.iload_n 1, 1, 0, 0, 0) := by decide +kernel
theorem op95_8 : rn_op 95 8 = some (.if_icmp .gt 60, 3, 0, 0, 0) := by decide +kernel
theorem op95_11 : rn_op 95 11 = some (.iload 4, 2, 0, 0, 0) := by decide +kernel
theorem op95_13 : rn_op 95 13 = some (.iload_n 1, 1, 0, 0, 0) := by decide +kernel
theorem op95_14 : rn_op 95 14 = some (.if_icmp .ge 13, 3, 0, 0, 0) := by decide +kernel
theorem op95_17 : rn_op 95 17 = some (.aload_n 0, 1, 0, 0, 0) := by decide +kernel
theorem op95_18 : rn_op 95 18 = some (.getfield 9, 3, 7, 1, 3) := by decide +kernel
theorem op95_21 : rn_op 95 21 = some (.iload 4, 2, 0, 0, 0) := by decide +kernel
theorem op95_23 : rn_op 95 23 = some (.iaload, 1, 0, 0, 0) := by decide +kernel
theorem op95_24 : rn_op 95 24 = some (.goto 4, 3, 0, 0, 0) := by decide +kernel
theorem op95_27 : rn_op 95 27 = some (.iload_n 2, 1, 0, 0, 0) := by decide +kernel
theorem op95_28 : rn_op 95 28 = some (.istore 5, 2, 0, 0, 0) := by decide +kernel
theorem op95_30 : rn_op 95 30 = some (.iconst 0, 1, 0, 0, 0) := by decide +kernel
theorem op95_31 : rn_op 95 31 = some (.istore 6, 2, 0, 0, 0) := by decide +kernel
theorem op95_33 : rn_op 95 33 = some (.iload 6, 2, 0, 0, 0) := by decide +kernel
theorem op95_35 : rn_op 95 35 = some (.iload 5, 2, 0, 0, 0) := by decide +kernel
theorem op95_37 : rn_op 95 37 = some (.if_icmp .ge 25, 3, 0, 0, 0) := by decide +kernel
theorem op95_40 : rn_op 95 40 = some (.aload_n 0, 1, 0, 0, 0) := by decide +kernel
theorem op95_41 : rn_op 95 41 = some (.iload 4, 2, 0, 0, 0) := by decide +kernel
theorem op95_43 : rn_op 95 43 = some (.iload 6, 2, 0, 0, 0) := by decide +kernel
theorem op95_45 : rn_op 95 45 = some (.invokevirtual 39, 3, 48, 3, 7) := by decide +kernel
theorem op95_48 : rn_op 95 48 = some (.bipush (-4), 2, 0, 0, 0) := by decide +kernel
theorem op95_50 : rn_op 95 50 = some (.if_icmp .ne 6, 3, 0, 0, 0) := by decide +kernel
theorem op95_53 : rn_op 95 53 = some (.iinc 3 1, 3, 0, 0, 0) := by decide +kernel
theorem op95_56 : rn_op 95 56 = some (.iinc 6 1, 3, 0, 0, 0) := by decide +kernel
theorem op95_59 : rn_op 95 59 = some (.goto (-26), 3, 0, 0, 0) := by decide +kernel
theorem op95_62 : rn_op 95 62 = some (.iinc 4 1, 3, 0, 0, 0) := by decide +kernel
theorem op95_65 : rn_op 95 65 = some (.goto (-60), 3, 0, 0, 0) := by decide +kernel
theorem op95_68 : rn_op 95 68 = some (.iload_n 3, 1, 0, 0, 0) := by decide +kernel
theorem op95_69 : rn_op 95 69 = some (.iconst 2, 1, 0, 0, 0) := by decide +kernel
theorem op95_70 : rn_op 95 70 = some (.invokestatic 43, 3, 21, 2, 0) := by decide +kernel
theorem op95_73 : rn_op 95 73 = some (.ireturn, 1, 0, 0, 0) := by decide +kernel
def ta_unseenAhead_l33 (q0 : Nat) (a1 : Int32) (a2 : Int32) (a4 : Int32) (a5 : Int32) : Nat → Int32 → Int32 → rn_Mem → Option (Int32 × rn_Mem)
  | 0, _, _, _ => none
  | n + 1, a3, a6, m =>
    if a6 < a5 then
      (ta_cardAt n q0 a4 a6 m).bind fun (r9, m8) =>
      (show Option (Int32) from
        if r9 = (-4) then
          (some (a3 + 1)).bind fun (x12 : Int32) =>
          some (x12)
        else
          some (a3)).bind fun x13 =>
      (some (a6 + 1)).bind fun (x14 : Int32) =>
      ta_unseenAhead_l33 q0 a1 a2 a4 a5 n x13 x14 m8
    else
      some (a3, m)
def ta_unseenAhead_l5 (q0 : Nat) (a1 : Int32) (a2 : Int32) : Nat → Int32 → Int32 → rn_Mem → Option (Int32 × rn_Mem)
  | 0, _, _, _ => none
  | n + 1, a3, a4, m =>
    if a1 < a4 then
      some (a3, m)
    else
      (show Option (Int32) from
        if a4 < a1 then
          if rn_in a4 4 = true then
            some (m.1 (q0 + 1) a4.toNatClampNeg)
          else none
        else
          some (a2)).bind fun x6 =>
      (ta_unseenAhead_l33 q0 a1 a2 a4 x6 n a3 0 m).bind fun (x17, m16) =>
      (some (a4 + 1)).bind fun (x20 : Int32) =>
      ta_unseenAhead_l5 q0 a1 a2 n x17 x20 m16
def ta_unseenAhead (n : Nat) (q0 : Nat) (a1 : Int32) (a2 : Int32) (m : rn_Mem) : Option (Int32 × rn_Mem) :=
  (ta_unseenAhead_l5 q0 a1 a2 n 0 0 m).bind fun (x27, m23) =>
  (ja_min n x27 2 m23).bind fun (r32, m31) =>
  some (r32, m31)
set_option maxHeartbeats 4000000 in
set_option maxRecDepth 20000 in
theorem ta_unseenAhead_l33_ok (xs : List Int32) {d : Nat} (hd : 1 ≤ d + 1) {q0 : Nat} {a1 : Int32} {a2 : Int32} {a4 : Int32} {a5 : Int32} {r : Option Value} {τ : rn_H} {out : Int32 × rn_Mem} (hr : ∀ (z3 : Int32) (mO : rn_Mem), out = (z3, mO) → ∀ (o5 o6 : Option Value), rn_R xs (d + 1) 95 62 [some (.ref q0), some (.int a1), some (.int a2), some (.int z3), some (.int a4), o5, o6] [] (rn_SH, mO) r τ) : ∀ (n : Nat) (a3 : Int32) (a6 : Int32) (m : rn_Mem), sA_Table q0 → ta_unseenAhead_l33 q0 a1 a2 a4 a5 n a3 a6 m = some out → rn_R xs (d + 1) 95 33 [some (.ref q0), some (.int a1), some (.int a2), some (.int a3), some (.int a4), some (.int a5), some (.int a6)] [] (rn_SH, m) r τ := by
  intro n
  induction n with
  | zero =>
    intro _ _ _ _ h
    cases h
  | succ n ih =>
    intro a3 a6 m hq0 h
    unfold ta_unseenAhead_l33 at h
    try dsimp only at h
    refine rx_p (L2 := [some (.ref q0), some (.int a1), some (.int a2), some (.int a3), some (.int a4), some (.int a5), some (.int a6)]) (S2 := [.int a6]) (pc2 := 35) op95_33 rfl rfl ?_
    refine rx_p (L2 := [some (.ref q0), some (.int a1), some (.int a2), some (.int a3), some (.int a4), some (.int a5), some (.int a6)]) (S2 := [.int a5, .int a6]) (pc2 := 37) op95_35 rfl rfl ?_
    refine ry_ic_ge (tgt := 62) (pc2 := 40) op95_37 (by decide) (by decide) rfl (fun b7 => ?_) (fun b7 => ?_)
    · have h := (if_pos b7).symm.trans h
      refine rx_p (L2 := [some (.ref q0), some (.int a1), some (.int a2), some (.int a3), some (.int a4), some (.int a5), some (.int a6)]) (S2 := [.ref q0]) (pc2 := 41) op95_40 rfl rfl ?_
      refine rx_p (L2 := [some (.ref q0), some (.int a1), some (.int a2), some (.int a3), some (.int a4), some (.int a5), some (.int a6)]) (S2 := [.int a4, .ref q0]) (pc2 := 43) op95_41 rfl rfl ?_
      refine rx_p (L2 := [some (.ref q0), some (.int a1), some (.int a2), some (.int a3), some (.int a4), some (.int a5), some (.int a6)]) (S2 := [.int a6, .int a4, .ref q0]) (pc2 := 45) op95_43 rfl rfl ?_
      obtain ⟨⟨r9, m8⟩, f10, h⟩ := rq_bind h
      try dsimp only at h
      refine ry_iv (p := q0) (vs := [.int a4, .int a6]) (T := []) (pc2 := 48) op95_45 ms_48 (by decide) rfl rfl (Nat.le_of_ble_eq_true rfl) (Nat.le_of_ble_eq_true rfl) (hq0.1) (ta_cardAt_ok xs (by omega) hq0 f10) rfl ?_
      show rn_R _ _ _ _ _ [.int r9] _ _ _
      refine rx_bp (v := (-4)) (pc2 := 50) op95_48 (by decide) rfl ?_
      obtain ⟨x13, gc15, h⟩ := rq_bind h
      try dsimp only at h
      have c15 : ∀ (_ : Unit), rn_R xs (d + 1) 95 56 [some (.ref q0), some (.int a1), some (.int a2), some (.int x13), some (.int a4), some (.int a5), some (.int a6)] [] (rn_SH, m8) r τ := by
        intro _
        obtain ⟨x14, ex14, h⟩ := rq_bv h
        refine rx_inc (w := 1) (v := x14) (L2 := [some (.ref q0), some (.int a1), some (.int a2), some (.int x13), some (.int a4), some (.int a5), some (.int x14)]) (pc2 := 59) op95_56 rfl (by decide) ex14 rfl rfl ?_
        refine ry_go (tgt := 33) op95_59 (by decide) (by decide) ?_
        exact ih _ _ _ hq0 h
      refine ry_ic_ne (tgt := 56) (pc2 := 53) op95_50 (by decide) (by decide) rfl (fun b11 => ?_) (fun b11 => ?_)
      · have gc15 := (if_pos b11).symm.trans gc15
        obtain ⟨x12, ex12, gc15⟩ := rq_bv gc15
        refine rx_inc (w := 1) (v := x12) (L2 := [some (.ref q0), some (.int a1), some (.int a2), some (.int x12), some (.int a4), some (.int a5), some (.int a6)]) (pc2 := 56) op95_53 rfl (by decide) ex12 rfl rfl ?_
        cases gc15
        exact c15 ()
      · have gc15 := (if_neg b11).symm.trans gc15
        cases gc15
        exact c15 ()
    · have h := (if_neg b7).symm.trans h
      cases h
      exact hr _ _ rfl _ _
set_option maxHeartbeats 4000000 in
set_option maxRecDepth 20000 in
theorem ta_unseenAhead_l5_ok (xs : List Int32) {d : Nat} (hd : 1 ≤ d + 1) {q0 : Nat} {a1 : Int32} {a2 : Int32} {r : Option Value} {τ : rn_H} {out : Int32 × rn_Mem} (hr : ∀ (z3 : Int32) (mO : rn_Mem), out = (z3, mO) → ∀ (o0 o1 o2 o4 o5 o6 : Option Value), rn_R xs (d + 1) 95 68 [o0, o1, o2, some (.int z3), o4, o5, o6] [] (rn_SH, mO) r τ) : ∀ (n : Nat) (a3 : Int32) (a4 : Int32) (o5 o6 : Option Value) (m : rn_Mem), sA_Table q0 → ta_unseenAhead_l5 q0 a1 a2 n a3 a4 m = some out → rn_R xs (d + 1) 95 5 [some (.ref q0), some (.int a1), some (.int a2), some (.int a3), some (.int a4), o5, o6] [] (rn_SH, m) r τ := by
  intro n
  induction n with
  | zero =>
    intro _ _ _ _ _ _ h
    cases h
  | succ n ih =>
    intro a3 a4 o5 o6 m hq0 h
    unfold ta_unseenAhead_l5 at h
    try dsimp only at h
    refine rx_p (L2 := [some (.ref q0), some (.int a1), some (.int a2), some (.int a3), some (.int a4), o5, o6]) (S2 := [.int a4]) (pc2 := 7) op95_5 rfl rfl ?_
    refine rx_p (L2 := [some (.ref q0), some (.int a1), some (.int a2), some (.int a3), some (.int a4), o5, o6]) (S2 := [.int a1, .int a4]) (pc2 := 8) op95_7 rfl rfl ?_
    refine ry_ic_gt (tgt := 68) (pc2 := 11) op95_8 (by decide) (by decide) rfl (fun b1 => ?_) (fun b1 => ?_)
    · have h := (if_pos b1).symm.trans h
      cases h
      exact hr _ _ rfl _ _ _ _ _ _
    · have h := (if_neg b1).symm.trans h
      refine rx_p (L2 := [some (.ref q0), some (.int a1), some (.int a2), some (.int a3), some (.int a4), o5, o6]) (S2 := [.int a4]) (pc2 := 13) op95_11 rfl rfl ?_
      refine rx_p (L2 := [some (.ref q0), some (.int a1), some (.int a2), some (.int a3), some (.int a4), o5, o6]) (S2 := [.int a1, .int a4]) (pc2 := 14) op95_13 rfl rfl ?_
      obtain ⟨x6, gc22, h⟩ := rq_bind h
      try dsimp only at h
      have c22 : ∀ (o4 o5 : Option Value), rn_R xs (d + 1) 95 28 [some (.ref q0), some (.int a1), some (.int a2), some (.int a3), some (.int a4), o4, o5] [.int x6] (rn_SH, m) r τ := by
        intro o4 o5
        refine rx_s (L2 := [some (.ref q0), some (.int a1), some (.int a2), some (.int a3), some (.int a4), some (.int x6), o5]) (pc2 := 30) op95_28 rfl rfl rfl ?_
        refine rx_ic (v := 0) (pc2 := 31) op95_30 (by decide) rfl ?_
        refine rx_s (L2 := [some (.ref q0), some (.int a1), some (.int a2), some (.int a3), some (.int a4), some (.int x6), some (.int 0)]) (pc2 := 33) op95_31 rfl rfl rfl ?_
        obtain ⟨wf21, f21, h⟩ := rq_bind h
        refine ta_unseenAhead_l33_ok xs hd (fun x17 m16 eq => ?_) _ _ _ _ hq0 f21
        subst eq
        try dsimp only at h
        intro o18 o19
        obtain ⟨x20, ex20, h⟩ := rq_bv h
        refine rx_inc (w := 1) (v := x20) (L2 := [some (.ref q0), some (.int a1), some (.int a2), some (.int x17), some (.int x20), o18, o19]) (pc2 := 65) op95_62 rfl (by decide) ex20 rfl rfl ?_
        refine ry_go (tgt := 5) op95_65 (by decide) (by decide) ?_
        exact ih _ _ _ _ _ hq0 h
      refine ry_ic_ge (tgt := 27) (pc2 := 17) op95_14 (by decide) (by decide) rfl (fun b2 => ?_) (fun b2 => ?_)
      · have gc22 := (if_pos b2).symm.trans gc22
        refine rx_p (L2 := [some (.ref q0), some (.int a1), some (.int a2), some (.int a3), some (.int a4), o5, o6]) (S2 := [.ref q0]) (pc2 := 18) op95_17 rfl rfl ?_
        refine rx_gf (v := .ref (q0 + 1)) (pc2 := 21) op95_18 (hq0.1) rfl rfl rfl ?_
        refine rx_p (L2 := [some (.ref q0), some (.int a1), some (.int a2), some (.int a3), some (.int a4), o5, o6]) (S2 := [.int a4, .ref (q0 + 1)]) (pc2 := 23) op95_21 rfl rfl ?_
        obtain ⟨k3, gc22⟩ := rq_chk gc22
        refine rx_ia (pc2 := 24) op95_23 (rn_shlt (hq0.2.1)) (hq0.2.1) k3 rfl rfl ?_
        refine ry_go (tgt := 28) op95_24 (by decide) (by decide) ?_
        cases gc22
        exact c22 _ _
      · have gc22 := (if_neg b2).symm.trans gc22
        refine rx_p (L2 := [some (.ref q0), some (.int a1), some (.int a2), some (.int a3), some (.int a4), o5, o6]) (S2 := [.int a2]) (pc2 := 28) op95_27 rfl rfl ?_
        cases gc22
        exact c22 _ _
set_option maxHeartbeats 4000000 in
set_option maxRecDepth 20000 in
theorem ta_unseenAhead_ok (xs : List Int32) {d : Nat} (hd : 1 ≤ d) {n : Nat} {q0 : Nat} {a1 : Int32} {a2 : Int32} {m mO : rn_Mem} {rO : Int32} (hq0 : sA_Table q0) (h : ta_unseenAhead n q0 a1 a2 m = some (rO, mO)) : rn_R xs d 95 0 (rn_ent 7 [.ref q0, .int a1, .int a2]) [] (rn_SH, m) (some (.int rO)) (rn_SH, mO) := by
  obtain ⟨d, rfl⟩ : ∃ e, d = e + 1 := ⟨d - 1, by omega⟩
  unfold ta_unseenAhead at h
  show rn_R xs (d + 1) 95 0 [some (.ref q0), some (.int a1), some (.int a2), none, none, none, none] [] (rn_SH, m) (some (.int rO)) (rn_SH, mO)
  refine rx_ic (v := 0) (pc2 := 1) op95_0 (by decide) rfl ?_
  refine rx_s (L2 := [some (.ref q0), some (.int a1), some (.int a2), some (.int 0), none, none, none]) (pc2 := 2) op95_1 rfl rfl rfl ?_
  refine rx_ic (v := 0) (pc2 := 3) op95_2 (by decide) rfl ?_
  refine rx_s (L2 := [some (.ref q0), some (.int a1), some (.int a2), some (.int 0), some (.int 0), none, none]) (pc2 := 5) op95_3 rfl rfl rfl ?_
  obtain ⟨wf34, f34, h⟩ := rq_bind h
  refine ta_unseenAhead_l5_ok xs hd (fun x27 m23 eq => ?_) _ _ _ _ _ _ hq0 f34
  subst eq
  try dsimp only at h
  intro o24 o25 o26 o28 o29 o30
  refine rx_p (L2 := [o24, o25, o26, some (.int x27), o28, o29, o30]) (S2 := [.int x27]) (pc2 := 69) op95_68 rfl rfl ?_
  refine rx_ic (v := 2) (pc2 := 70) op95_69 (by decide) rfl ?_
  obtain ⟨⟨r32, m31⟩, f33, h⟩ := rq_bind h
  try dsimp only at h
  refine ry_is (vs := [.int x27, .int 2]) (T := []) (pc2 := 73) op95_70 (by decide) ms_21 (by decide) rfl rfl (Nat.le_of_ble_eq_true rfl) (Nat.le_of_ble_eq_true rfl) (ja_min_ok xs (by omega)  f33) rfl ?_
  show rn_R _ _ _ _ _ [.int r32] _ _ _
  obtain ⟨rfl, rfl⟩ := rq_ret h
  exact ry_ri op95_73 ms_95 rfl
/-! lt_under -/
theorem op94_0 : rn_op 94 0 = some (.iload_n 1, 1, 0, 0, 0) := by decide +kernel
theorem op94_1 : rn_op 94 1 = some (.invokestatic 132, 3, 39, 1, 0) := by decide +kernel
theorem op94_4 : rn_op 94 4 = some (.ifCond .ne 13, 3, 0, 0, 0) := by decide +kernel
theorem op94_7 : rn_op 94 7 = some (.iload_n 2, 1, 0, 0, 0) := by decide +kernel
theorem op94_8 : rn_op 94 8 = some (.ifCond .lt 9, 3, 0, 0, 0) := by decide +kernel
theorem op94_11 : rn_op 94 11 = some (.iload_n 2, 1, 0, 0, 0) := by decide +kernel
theorem op94_12 : rn_op 94 12 = some (.bipush 12, 2, 0, 0, 0) := by decide +kernel
theorem op94_14 : rn_op 94 14 = some (.if_icmp .lt 5, 3, 0, 0, 0) := by decide +kernel
theorem op94_17 : rn_op 94 17 = some (.iconst (-1), 1, 0, 0, 0) := by decide +kernel
theorem op94_18 : rn_op 94 18 = some (.ireturn, 1, 0, 0, 0) := by decide +kernel
theorem op94_19 : rn_op 94 19 = some (.aload_n 0, 1, 0, 0, 0) := by decide +kernel
theorem op94_20 : rn_op 94 20 = some (.getfield 19, 3, 10, 1, 3) := by decide +kernel
theorem op94_23 : rn_op 94 23 = some (.getfield 93, 3, 6, 1, 3) := by decide +kernel
theorem op94_26 : rn_op 94 26 = some (.getfield 136, 3, 7, 0, 2) := by decide +kernel
theorem op94_29 : rn_op 94 29 = some (.ifCond .ne 6, 3, 0, 0, 0) := by decide +kernel
theorem op94_32 : rn_op 94 32 = some (.bipush (-2), 2, 0, 0, 0) := by decide +kernel
theorem op94_34 : rn_op 94 34 = some (.ireturn, 1, 0, 0, 0) := by decide +kernel
theorem op94_35 : rn_op 94 35 = some (.iload_n 1, 1, 0, 0, 0) := by decide +kernel
theorem op94_36 : rn_op 94 36 = some (.aload_n 0, 1, 0, 0, 0) := by decide +kernel
theorem op94_37 : rn_op 94 37 = some (.getfield 19, 3, 10, 1, 3) := by decide +kernel
theorem op94_40 : rn_op 94 40 = some (.getfield 62, 3, 6, 0, 3) := by decide +kernel
theorem op94_43 : rn_op 94 43 = some (.getfield 118, 3, 1, 1, 0) := by decide +kernel
theorem op94_46 : rn_op 94 46 = some (.if_icmp .ge 19, 3, 0, 0, 0) := by decide +kernel
theorem op94_49 : rn_op 94 49 = some (.iload_n 2, 1, 0, 0, 0) := by decide +kernel
theorem op94_50 : rn_op 94 50 = some (.aload_n 0, 1, 0, 0, 0) := by decide +kernel
theorem op94_51 : rn_op 94 51 = some (.getfield 19, 3, 10, 1, 3) := by decide +kernel
theorem op94_54 : rn_op 94 54 = some (.getfield 93, 3, 6, 1, 3) := by decide +kernel
theorem op94_57 : rn_op 94 57 = some (.getfield 137, 3, 7, 1, 3) := by decide +kernel
theorem op94_60 : rn_op 94 60 = some (.iload_n 1, 1, 0, 0, 0) := by decide +kernel
theorem op94_61 : rn_op 94 61 = some (.iaload, 1, 0, 0, 0) := by decide +kernel
theorem op94_62 : rn_op 94 62 = some (.if_icmp .lt 5, 3, 0, 0, 0) := by decide +kernel
theorem op94_65 : rn_op 94 65 = some (.iconst (-1), 1, 0, 0, 0) := by decide +kernel
theorem op94_66 : rn_op 94 66 = some (.ireturn, 1, 0, 0, 0) := by decide +kernel
theorem op94_67 : rn_op 94 67 = some (.aload_n 0, 1, 0, 0, 0) := by decide +kernel
theorem op94_68 : rn_op 94 68 = some (.getfield 19, 3, 10, 1, 3) := by decide +kernel
theorem op94_71 : rn_op 94 71 = some (.getfield 93, 3, 6, 1, 3) := by decide +kernel
theorem op94_74 : rn_op 94 74 = some (.iload_n 1, 1, 0, 0, 0) := by decide +kernel
theorem op94_75 : rn_op 94 75 = some (.iload_n 2, 1, 0, 0, 0) := by decide +kernel
theorem op94_76 : rn_op 94 76 = some (.invokevirtual 140, 3, 48, 3, 7) := by decide +kernel
theorem op94_79 : rn_op 94 79 = some (.bipush (-4), 2, 0, 0, 0) := by decide +kernel
theorem op94_81 : rn_op 94 81 = some (.if_icmp .eq 6, 3, 0, 0, 0) := by decide +kernel
theorem op94_84 : rn_op 94 84 = some (.bipush (-2), 2, 0, 0, 0) := by decide +kernel
theorem op94_86 : rn_op 94 86 = some (.ireturn, 1, 0, 0, 0) := by decide +kernel
theorem op94_87 : rn_op 94 87 = some (.aload_n 0, 1, 0, 0, 0) := by decide +kernel
theorem op94_88 : rn_op 94 88 = some (.invokevirtual 179, 3, 61, 1, 10) := by decide +kernel
theorem op94_91 : rn_op 94 91 = some (.aload_n 0, 1, 0, 0, 0) := by decide +kernel
theorem op94_92 : rn_op 94 92 = some (.getfield 32, 3, 10, 4, 3) := by decide +kernel
theorem op94_95 : rn_op 94 95 = some (.getfield 192, 3, 4, 18, 3) := by decide +kernel
theorem op94_98 : rn_op 94 98 = some (.aload_n 0, 1, 0, 0, 0) := by decide +kernel
theorem op94_99 : rn_op 94 99 = some (.getfield 19, 3, 10, 1, 3) := by decide +kernel
theorem op94_102 : rn_op 94 102 = some (.getfield 93, 3, 6, 1, 3) := by decide +kernel
theorem op94_105 : rn_op 94 105 = some (.iload_n 1, 1, 0, 0, 0) := by decide +kernel
theorem op94_106 : rn_op 94 106 = some (.iload_n 2, 1, 0, 0, 0) := by decide +kernel
theorem op94_107 : rn_op 94 107 = some (.invokevirtual 195, 3, 95, 3, 7) := by decide +kernel
theorem op94_110 : rn_op 94 110 = some (.iaload, 1, 0, 0, 0) := by decide +kernel
theorem op94_111 : rn_op 94 111 = some (.ireturn, 1, 0, 0, 0) := by decide +kernel
def lt_under (n : Nat) (a1 : Int32) (a2 : Int32) (m : rn_Mem) : Option (Int32 × rn_Mem) :=
  (lt_isNoChair n a1 m).bind fun (r2, m1) =>
  if r2 = 0 then
    if a2 < 0 then
      some ((-1), m1)
    else
      if a2 < 12 then
        if (m1.1 5 0) = 0 then
          some ((-2), m1)
        else
          if a1 < (m1.1 4 1) then
            if rn_in a1 4 = true then
              if a2 < (m1.1 6 a1.toNatClampNeg) then
                (ta_cardAt n 5 a1 a2 m1).bind fun (r12, m11) =>
                if r12 = (-4) then
                  (lt_survey n m11).bind fun m15 =>
                  (ta_unseenAhead n 5 a1 a2 m15).bind fun (r18, m17) =>
                  if rn_in r18 3 = true then
                    some (m17.1 68 r18.toNatClampNeg, m17)
                  else none
                else
                  some ((-2), m11)
              else
                some ((-1), m1)
            else none
          else
            some ((-1), m1)
      else
        some ((-1), m1)
  else
    some ((-1), m1)
set_option maxHeartbeats 4000000 in
set_option maxRecDepth 20000 in
theorem lt_under_ok (xs : List Int32) {d : Nat} (hd : 42 ≤ d) {n : Nat} {a1 : Int32} {a2 : Int32} {m mO : rn_Mem} {rO : Int32} (h : lt_under n a1 a2 m = some (rO, mO)) : rn_R xs d 94 0 (rn_ent 3 [.ref 0, .int a1, .int a2]) [] (rn_SH, m) (some (.int rO)) (rn_SH, mO) := by
  obtain ⟨d, rfl⟩ : ∃ e, d = e + 1 := ⟨d - 1, by omega⟩
  unfold lt_under at h
  show rn_R xs (d + 1) 94 0 [some (.ref 0), some (.int a1), some (.int a2)] [] (rn_SH, m) (some (.int rO)) (rn_SH, mO)
  refine rx_p (L2 := [some (.ref 0), some (.int a1), some (.int a2)]) (S2 := [.int a1]) (pc2 := 1) op94_0 rfl rfl ?_
  obtain ⟨⟨r2, m1⟩, f3, h⟩ := rq_bind h
  try dsimp only at h
  refine ry_is (vs := [.int a1]) (T := []) (pc2 := 4) op94_1 (by decide) ms_39 (by decide) rfl rfl (Nat.le_of_ble_eq_true rfl) (Nat.le_of_ble_eq_true rfl) (lt_isNoChair_ok xs (by omega)  f3) rfl ?_
  show rn_R _ _ _ _ _ [.int r2] _ _ _
  refine ry_if_ne (tgt := 17) (pc2 := 7) op94_4 (by decide) (by decide) rfl (fun b4 => ?_) (fun b4 => ?_)
  · have h := (if_pos b4).symm.trans h
    refine rx_p (L2 := [some (.ref 0), some (.int a1), some (.int a2)]) (S2 := [.int a2]) (pc2 := 8) op94_7 rfl rfl ?_
    refine ry_if_lt (tgt := 17) (pc2 := 11) op94_8 (by decide) (by decide) rfl (fun b5 => ?_) (fun b5 => ?_)
    · have h := (if_pos b5).symm.trans h
      refine rx_ic (v := (-1)) (pc2 := 18) op94_17 (by decide) rfl ?_
      obtain ⟨rfl, rfl⟩ := rq_ret h
      exact ry_ri op94_18 ms_94 rfl
    · have h := (if_neg b5).symm.trans h
      refine rx_p (L2 := [some (.ref 0), some (.int a1), some (.int a2)]) (S2 := [.int a2]) (pc2 := 12) op94_11 rfl rfl ?_
      refine rx_bp (v := 12) (pc2 := 14) op94_12 (by decide) rfl ?_
      refine ry_ic_lt (tgt := 19) (pc2 := 17) op94_14 (by decide) (by decide) rfl (fun b6 => ?_) (fun b6 => ?_)
      · have h := (if_pos b6).symm.trans h
        refine rx_p (L2 := [some (.ref 0), some (.int a1), some (.int a2)]) (S2 := [.ref 0]) (pc2 := 20) op94_19 rfl rfl ?_
        refine rx_gf (v := .ref 3) (pc2 := 23) op94_20 sp_0 rfl rfl rfl ?_
        refine rx_gf (v := .ref 5) (pc2 := 26) op94_23 sp_3 rfl rfl rfl ?_
        refine rx_gf (v := .int (m1.1 5 0)) (pc2 := 29) op94_26 sp_5 rfl rfl rfl ?_
        refine ry_if_ne (tgt := 35) (pc2 := 32) op94_29 (by decide) (by decide) rfl (fun b7 => ?_) (fun b7 => ?_)
        · have h := (if_pos b7).symm.trans h
          refine rx_bp (v := (-2)) (pc2 := 34) op94_32 (by decide) rfl ?_
          obtain ⟨rfl, rfl⟩ := rq_ret h
          exact ry_ri op94_34 ms_94 rfl
        · have h := (if_neg b7).symm.trans h
          refine rx_p (L2 := [some (.ref 0), some (.int a1), some (.int a2)]) (S2 := [.int a1]) (pc2 := 36) op94_35 rfl rfl ?_
          refine rx_p (L2 := [some (.ref 0), some (.int a1), some (.int a2)]) (S2 := [.ref 0, .int a1]) (pc2 := 37) op94_36 rfl rfl ?_
          refine rx_gf (v := .ref 3) (pc2 := 40) op94_37 sp_0 rfl rfl rfl ?_
          refine rx_gf (v := .ref 4) (pc2 := 43) op94_40 sp_3 rfl rfl rfl ?_
          refine rx_gf (v := .int (m1.1 4 1)) (pc2 := 46) op94_43 sp_4 rfl rfl rfl ?_
          refine ry_ic_ge (tgt := 65) (pc2 := 49) op94_46 (by decide) (by decide) rfl (fun b8 => ?_) (fun b8 => ?_)
          · have h := (if_pos b8).symm.trans h
            refine rx_p (L2 := [some (.ref 0), some (.int a1), some (.int a2)]) (S2 := [.int a2]) (pc2 := 50) op94_49 rfl rfl ?_
            refine rx_p (L2 := [some (.ref 0), some (.int a1), some (.int a2)]) (S2 := [.ref 0, .int a2]) (pc2 := 51) op94_50 rfl rfl ?_
            refine rx_gf (v := .ref 3) (pc2 := 54) op94_51 sp_0 rfl rfl rfl ?_
            refine rx_gf (v := .ref 5) (pc2 := 57) op94_54 sp_3 rfl rfl rfl ?_
            refine rx_gf (v := .ref 6) (pc2 := 60) op94_57 sp_5 rfl rfl rfl ?_
            refine rx_p (L2 := [some (.ref 0), some (.int a1), some (.int a2)]) (S2 := [.int a1, .ref 6, .int a2]) (pc2 := 61) op94_60 rfl rfl ?_
            obtain ⟨k9, h⟩ := rq_chk h
            refine rx_ia (pc2 := 62) op94_61 (rn_shlt sp_6) sp_6 k9 rfl rfl ?_
            refine ry_ic_lt (tgt := 67) (pc2 := 65) op94_62 (by decide) (by decide) rfl (fun b10 => ?_) (fun b10 => ?_)
            · have h := (if_pos b10).symm.trans h
              refine rx_p (L2 := [some (.ref 0), some (.int a1), some (.int a2)]) (S2 := [.ref 0]) (pc2 := 68) op94_67 rfl rfl ?_
              refine rx_gf (v := .ref 3) (pc2 := 71) op94_68 sp_0 rfl rfl rfl ?_
              refine rx_gf (v := .ref 5) (pc2 := 74) op94_71 sp_3 rfl rfl rfl ?_
              refine rx_p (L2 := [some (.ref 0), some (.int a1), some (.int a2)]) (S2 := [.int a1, .ref 5]) (pc2 := 75) op94_74 rfl rfl ?_
              refine rx_p (L2 := [some (.ref 0), some (.int a1), some (.int a2)]) (S2 := [.int a2, .int a1, .ref 5]) (pc2 := 76) op94_75 rfl rfl ?_
              obtain ⟨⟨r12, m11⟩, f13, h⟩ := rq_bind h
              try dsimp only at h
              refine ry_iv (p := 5) (vs := [.int a1, .int a2]) (T := []) (pc2 := 79) op94_76 ms_48 (by decide) rfl rfl (Nat.le_of_ble_eq_true rfl) (Nat.le_of_ble_eq_true rfl) sp_5 (ta_cardAt_ok xs (by omega) sa_5 f13) rfl ?_
              show rn_R _ _ _ _ _ [.int r12] _ _ _
              refine rx_bp (v := (-4)) (pc2 := 81) op94_79 (by decide) rfl ?_
              refine ry_ic_eq (tgt := 87) (pc2 := 84) op94_81 (by decide) (by decide) rfl (fun b14 => ?_) (fun b14 => ?_)
              · have h := (if_pos b14).symm.trans h
                refine rx_p (L2 := [some (.ref 0), some (.int a1), some (.int a2)]) (S2 := [.ref 0]) (pc2 := 88) op94_87 rfl rfl ?_
                obtain ⟨m15, f16, h⟩ := rq_bind h
                try dsimp only at h
                refine ry_iv (p := 0) (vs := []) (T := []) (pc2 := 91) op94_88 ms_61 (by decide) rfl rfl (Nat.le_of_ble_eq_true rfl) (Nat.le_of_ble_eq_true rfl) sp_0 (lt_survey_ok xs (by omega)  f16) rfl ?_
                show rn_R _ _ _ _ _ [] _ _ _
                refine rx_p (L2 := [some (.ref 0), some (.int a1), some (.int a2)]) (S2 := [.ref 0]) (pc2 := 92) op94_91 rfl rfl ?_
                refine rx_gf (v := .ref 51) (pc2 := 95) op94_92 sp_0 rfl rfl rfl ?_
                refine rx_gf (v := .ref 68) (pc2 := 98) op94_95 sp_51 rfl rfl rfl ?_
                refine rx_p (L2 := [some (.ref 0), some (.int a1), some (.int a2)]) (S2 := [.ref 0, .ref 68]) (pc2 := 99) op94_98 rfl rfl ?_
                refine rx_gf (v := .ref 3) (pc2 := 102) op94_99 sp_0 rfl rfl rfl ?_
                refine rx_gf (v := .ref 5) (pc2 := 105) op94_102 sp_3 rfl rfl rfl ?_
                refine rx_p (L2 := [some (.ref 0), some (.int a1), some (.int a2)]) (S2 := [.int a1, .ref 5, .ref 68]) (pc2 := 106) op94_105 rfl rfl ?_
                refine rx_p (L2 := [some (.ref 0), some (.int a1), some (.int a2)]) (S2 := [.int a2, .int a1, .ref 5, .ref 68]) (pc2 := 107) op94_106 rfl rfl ?_
                obtain ⟨⟨r18, m17⟩, f19, h⟩ := rq_bind h
                try dsimp only at h
                refine ry_iv (p := 5) (vs := [.int a1, .int a2]) (T := [.ref 68]) (pc2 := 110) op94_107 ms_95 (by decide) rfl rfl (Nat.le_of_ble_eq_true rfl) (Nat.le_of_ble_eq_true rfl) sp_5 (ta_unseenAhead_ok xs (by omega) sa_5 f19) rfl ?_
                show rn_R _ _ _ _ _ [.int r18, .ref 68] _ _ _
                obtain ⟨k20, h⟩ := rq_chk h
                refine rx_ia (pc2 := 111) op94_110 (rn_shlt sp_68) sp_68 k20 rfl rfl ?_
                obtain ⟨rfl, rfl⟩ := rq_ret h
                exact ry_ri op94_111 ms_94 rfl
              · have h := (if_neg b14).symm.trans h
                refine rx_bp (v := (-2)) (pc2 := 86) op94_84 (by decide) rfl ?_
                obtain ⟨rfl, rfl⟩ := rq_ret h
                exact ry_ri op94_86 ms_94 rfl
            · have h := (if_neg b10).symm.trans h
              refine rx_ic (v := (-1)) (pc2 := 66) op94_65 (by decide) rfl ?_
              obtain ⟨rfl, rfl⟩ := rq_ret h
              exact ry_ri op94_66 ms_94 rfl
          · have h := (if_neg b8).symm.trans h
            refine rx_ic (v := (-1)) (pc2 := 66) op94_65 (by decide) rfl ?_
            obtain ⟨rfl, rfl⟩ := rq_ret h
            exact ry_ri op94_66 ms_94 rfl
      · have h := (if_neg b6).symm.trans h
        refine rx_ic (v := (-1)) (pc2 := 18) op94_17 (by decide) rfl ?_
        obtain ⟨rfl, rfl⟩ := rq_ret h
        exact ry_ri op94_18 ms_94 rfl
  · have h := (if_neg b4).symm.trans h
    refine rx_ic (v := (-1)) (pc2 := 18) op94_17 (by decide) rfl ?_
    obtain ⟨rfl, rfl⟩ := rq_ret h
    exact ry_ri op94_18 ms_94 rfl
/-! lt_isNoTrick -/
theorem op97_0 : rn_op 97 0 = some (.iload_n 0, 1, 0, 0, 0) := by decide +kernel
theorem op97_1 : rn_op 97 1 = some (.ifCond .lt 8, 3, 0, 0, 0) := by decide +kernel
theorem op97_4 : rn_op 97 4 = some (.iload_n 0, 1, 0, 0, 0) := by decide +kernel
theorem op97_5 : rn_op 97 5 = some (.iconst 4, 1, 0, 0, 0) := by decide +kernel
theorem op97_6 : rn_op 97 6 = some (.if_icmp .lt 7, 3, 0, 0, 0) := by decide +kernel
theorem op97_9 : rn_op 97 9 = some (.iconst 1, 1, 0, 0, 0) := by decide +kernel
theorem op97_10 : rn_op 97 10 = some (.goto 4, 3, 0, 0, 0) := by decide +kernel
theorem op97_13 : rn_op 97 13 = some (.iconst 0, 1, 0, 0, 0) := by decide +kernel
theorem op97_14 : rn_op 97 14 = some (.ireturn, 1, 0, 0, 0) := by decide +kernel
def lt_isNoTrick (n : Nat) (a0 : Int32) (m : rn_Mem) : Option (Int32 × rn_Mem) :=
  if a0 < 0 then
    some (1, m)
  else
    if a0 < 4 then
      some (0, m)
    else
      some (1, m)
set_option maxHeartbeats 4000000 in
set_option maxRecDepth 20000 in
theorem lt_isNoTrick_ok (xs : List Int32) {d : Nat} (hd : 0 ≤ d) {n : Nat} {a0 : Int32} {m mO : rn_Mem} {rO : Int32} (h : lt_isNoTrick n a0 m = some (rO, mO)) : rn_R xs d 97 0 (rn_ent 1 [.int a0]) [] (rn_SH, m) (some (.int rO)) (rn_SH, mO) := by
  unfold lt_isNoTrick at h
  show rn_R xs d 97 0 [some (.int a0)] [] (rn_SH, m) (some (.int rO)) (rn_SH, mO)
  refine rx_p (L2 := [some (.int a0)]) (S2 := [.int a0]) (pc2 := 1) op97_0 rfl rfl ?_
  refine ry_if_lt (tgt := 9) (pc2 := 4) op97_1 (by decide) (by decide) rfl (fun b1 => ?_) (fun b1 => ?_)
  · have h := (if_pos b1).symm.trans h
    refine rx_ic (v := 1) (pc2 := 10) op97_9 (by decide) rfl ?_
    refine ry_go (tgt := 14) op97_10 (by decide) (by decide) ?_
    obtain ⟨rfl, rfl⟩ := rq_ret h
    exact ry_rz (x := 1) op97_14 ms_97 rfl (by decide)
  · have h := (if_neg b1).symm.trans h
    refine rx_p (L2 := [some (.int a0)]) (S2 := [.int a0]) (pc2 := 5) op97_4 rfl rfl ?_
    refine rx_ic (v := 4) (pc2 := 6) op97_5 (by decide) rfl ?_
    refine ry_ic_lt (tgt := 13) (pc2 := 9) op97_6 (by decide) (by decide) rfl (fun b2 => ?_) (fun b2 => ?_)
    · have h := (if_pos b2).symm.trans h
      refine rx_ic (v := 0) (pc2 := 14) op97_13 (by decide) rfl ?_
      obtain ⟨rfl, rfl⟩ := rq_ret h
      exact ry_rz (x := 0) op97_14 ms_97 rfl (by decide)
    · have h := (if_neg b2).symm.trans h
      refine rx_ic (v := 1) (pc2 := 10) op97_9 (by decide) rfl ?_
      refine ry_go (tgt := 14) op97_10 (by decide) (by decide) ?_
      obtain ⟨rfl, rfl⟩ := rq_ret h
      exact ry_rz (x := 1) op97_14 ms_97 rfl (by decide)
/-! lt_trick -/
theorem op96_0 : rn_op 96 0 = some (.iload_n 1, 1, 0, 0, 0) := by decide +kernel
theorem op96_1 : rn_op 96 1 = some (.invokestatic 198, 3, 97, 1, 0) := by decide +kernel
theorem op96_4 : rn_op 96 4 = some (.ifCond .ne 12, 3, 0, 0, 0) := by decide +kernel
theorem op96_7 : rn_op 96 7 = some (.iload_n 2, 1, 0, 0, 0) := by decide +kernel
theorem op96_8 : rn_op 96 8 = some (.ifCond .lt 8, 3, 0, 0, 0) := by decide +kernel
theorem op96_11 : rn_op 96 11 = some (.iload_n 2, 1, 0, 0, 0) := by decide +kernel
theorem op96_12 : rn_op 96 12 = some (.iconst 1, 1, 0, 0, 0) := by decide +kernel
theorem op96_13 : rn_op 96 13 = some (.if_icmp .le 5, 3, 0, 0, 0) := by decide +kernel
theorem op96_16 : rn_op 96 16 = some (.iconst (-1), 1, 0, 0, 0) := by decide +kernel
theorem op96_17 : rn_op 96 17 = some (.ireturn, 1, 0, 0, 0) := by decide +kernel
theorem op96_18 : rn_op 96 18 = some (.aload_n 0, 1, 0, 0, 0) := by decide +kernel
theorem op96_19 : rn_op 96 19 = some (.getfield 19, 3, 10, 1, 3) := by decide +kernel
theorem op96_22 : rn_op 96 22 = some (.getfield 93, 3, 6, 1, 3) := by decide +kernel
theorem op96_25 : rn_op 96 25 = some (.getfield 136, 3, 7, 0, 2) := by decide +kernel
theorem op96_28 : rn_op 96 28 = some (.ifCond .ne 6, 3, 0, 0, 0) := by decide +kernel
theorem op96_31 : rn_op 96 31 = some (.bipush (-2), 2, 0, 0, 0) := by decide +kernel
theorem op96_33 : rn_op 96 33 = some (.ireturn, 1, 0, 0, 0) := by decide +kernel
theorem op96_34 : rn_op 96 34 = some (.iload_n 1, 1, 0, 0, 0) := by decide +kernel
theorem op96_35 : rn_op 96 35 = some (.aload_n 0, 1, 0, 0, 0) := by decide +kernel
theorem op96_36 : rn_op 96 36 = some (.getfield 19, 3, 10, 1, 3) := by decide +kernel
theorem op96_39 : rn_op 96 39 = some (.getfield 62, 3, 6, 0, 3) := by decide +kernel
theorem op96_42 : rn_op 96 42 = some (.getfield 201, 3, 1, 2, 0) := by decide +kernel
theorem op96_45 : rn_op 96 45 = some (.if_icmp .lt 5, 3, 0, 0, 0) := by decide +kernel
theorem op96_48 : rn_op 96 48 = some (.iconst (-1), 1, 0, 0, 0) := by decide +kernel
theorem op96_49 : rn_op 96 49 = some (.ireturn, 1, 0, 0, 0) := by decide +kernel
theorem op96_50 : rn_op 96 50 = some (.aload_n 0, 1, 0, 0, 0) := by decide +kernel
theorem op96_51 : rn_op 96 51 = some (.invokevirtual 179, 3, 61, 1, 10) := by decide +kernel
theorem op96_54 : rn_op 96 54 = some (.iload_n 2, 1, 0, 0, 0) := by decide +kernel
theorem op96_55 : rn_op 96 55 = some (.ifCond .ne 13, 3, 0, 0, 0) := by decide +kernel
theorem op96_58 : rn_op 96 58 = some (.aload_n 0, 1, 0, 0, 0) := by decide +kernel
theorem op96_59 : rn_op 96 59 = some (.getfield 32, 3, 10, 4, 3) := by decide +kernel
theorem op96_62 : rn_op 96 62 = some (.getfield 204, 3, 4, 15, 0) := by decide +kernel
theorem op96_65 : rn_op 96 65 = some (.goto 10, 3, 0, 0, 0) := by decide +kernel
theorem op96_68 : rn_op 96 68 = some (.aload_n 0, 1, 0, 0, 0) := by decide +kernel
theorem op96_69 : rn_op 96 69 = some (.getfield 32, 3, 10, 4, 3) := by decide +kernel
theorem op96_72 : rn_op 96 72 = some (.getfield 207, 3, 4, 16, 0) := by decide +kernel
theorem op96_75 : rn_op 96 75 = some (.iconst 4, 1, 0, 0, 0) := by decide +kernel
theorem op96_76 : rn_op 96 76 = some (.iload_n 1, 1, 0, 0, 0) := by decide +kernel
theorem op96_77 : rn_op 96 77 = some (.imul, 1, 0, 0, 0) := by decide +kernel
theorem op96_78 : rn_op 96 78 = some (.ishr, 1, 0, 0, 0) := by decide +kernel
theorem op96_79 : rn_op 96 79 = some (.bipush 15, 2, 0, 0, 0) := by decide +kernel
theorem op96_81 : rn_op 96 81 = some (.iand, 1, 0, 0, 0) := by decide +kernel
theorem op96_82 : rn_op 96 82 = some (.ireturn, 1, 0, 0, 0) := by decide +kernel
def lt_trick (n : Nat) (a1 : Int32) (a2 : Int32) (m : rn_Mem) : Option (Int32 × rn_Mem) :=
  (lt_isNoTrick n a1 m).bind fun (r2, m1) =>
  if r2 = 0 then
    if a2 < 0 then
      some ((-1), m1)
    else
      if 1 < a2 then
        some ((-1), m1)
      else
        if (m1.1 5 0) = 0 then
          some ((-2), m1)
        else
          if a1 < (m1.1 4 2) then
            (lt_survey n m1).bind fun m9 =>
            (show Option (Int32) from
              if a2 = 0 then
                some (m9.1 51 15)
              else
                some (m9.1 51 16)).bind fun x14 =>
            some ((x14 >>> (((4 : Int32) * a1) &&& 31)) &&& 15, m9)
          else
            some ((-1), m1)
  else
    some ((-1), m1)
set_option maxHeartbeats 4000000 in
set_option maxRecDepth 20000 in
theorem lt_trick_ok (xs : List Int32) {d : Nat} (hd : 42 ≤ d) {n : Nat} {a1 : Int32} {a2 : Int32} {m mO : rn_Mem} {rO : Int32} (h : lt_trick n a1 a2 m = some (rO, mO)) : rn_R xs d 96 0 (rn_ent 3 [.ref 0, .int a1, .int a2]) [] (rn_SH, m) (some (.int rO)) (rn_SH, mO) := by
  obtain ⟨d, rfl⟩ : ∃ e, d = e + 1 := ⟨d - 1, by omega⟩
  unfold lt_trick at h
  show rn_R xs (d + 1) 96 0 [some (.ref 0), some (.int a1), some (.int a2)] [] (rn_SH, m) (some (.int rO)) (rn_SH, mO)
  refine rx_p (L2 := [some (.ref 0), some (.int a1), some (.int a2)]) (S2 := [.int a1]) (pc2 := 1) op96_0 rfl rfl ?_
  obtain ⟨⟨r2, m1⟩, f3, h⟩ := rq_bind h
  try dsimp only at h
  refine ry_is (vs := [.int a1]) (T := []) (pc2 := 4) op96_1 (by decide) ms_97 (by decide) rfl rfl (Nat.le_of_ble_eq_true rfl) (Nat.le_of_ble_eq_true rfl) (lt_isNoTrick_ok xs (by omega)  f3) rfl ?_
  show rn_R _ _ _ _ _ [.int r2] _ _ _
  refine ry_if_ne (tgt := 16) (pc2 := 7) op96_4 (by decide) (by decide) rfl (fun b4 => ?_) (fun b4 => ?_)
  · have h := (if_pos b4).symm.trans h
    refine rx_p (L2 := [some (.ref 0), some (.int a1), some (.int a2)]) (S2 := [.int a2]) (pc2 := 8) op96_7 rfl rfl ?_
    refine ry_if_lt (tgt := 16) (pc2 := 11) op96_8 (by decide) (by decide) rfl (fun b5 => ?_) (fun b5 => ?_)
    · have h := (if_pos b5).symm.trans h
      refine rx_ic (v := (-1)) (pc2 := 17) op96_16 (by decide) rfl ?_
      obtain ⟨rfl, rfl⟩ := rq_ret h
      exact ry_ri op96_17 ms_96 rfl
    · have h := (if_neg b5).symm.trans h
      refine rx_p (L2 := [some (.ref 0), some (.int a1), some (.int a2)]) (S2 := [.int a2]) (pc2 := 12) op96_11 rfl rfl ?_
      refine rx_ic (v := 1) (pc2 := 13) op96_12 (by decide) rfl ?_
      refine ry_ic_le (tgt := 18) (pc2 := 16) op96_13 (by decide) (by decide) rfl (fun b6 => ?_) (fun b6 => ?_)
      · have h := (if_pos b6).symm.trans h
        refine rx_ic (v := (-1)) (pc2 := 17) op96_16 (by decide) rfl ?_
        obtain ⟨rfl, rfl⟩ := rq_ret h
        exact ry_ri op96_17 ms_96 rfl
      · have h := (if_neg b6).symm.trans h
        refine rx_p (L2 := [some (.ref 0), some (.int a1), some (.int a2)]) (S2 := [.ref 0]) (pc2 := 19) op96_18 rfl rfl ?_
        refine rx_gf (v := .ref 3) (pc2 := 22) op96_19 sp_0 rfl rfl rfl ?_
        refine rx_gf (v := .ref 5) (pc2 := 25) op96_22 sp_3 rfl rfl rfl ?_
        refine rx_gf (v := .int (m1.1 5 0)) (pc2 := 28) op96_25 sp_5 rfl rfl rfl ?_
        refine ry_if_ne (tgt := 34) (pc2 := 31) op96_28 (by decide) (by decide) rfl (fun b7 => ?_) (fun b7 => ?_)
        · have h := (if_pos b7).symm.trans h
          refine rx_bp (v := (-2)) (pc2 := 33) op96_31 (by decide) rfl ?_
          obtain ⟨rfl, rfl⟩ := rq_ret h
          exact ry_ri op96_33 ms_96 rfl
        · have h := (if_neg b7).symm.trans h
          refine rx_p (L2 := [some (.ref 0), some (.int a1), some (.int a2)]) (S2 := [.int a1]) (pc2 := 35) op96_34 rfl rfl ?_
          refine rx_p (L2 := [some (.ref 0), some (.int a1), some (.int a2)]) (S2 := [.ref 0, .int a1]) (pc2 := 36) op96_35 rfl rfl ?_
          refine rx_gf (v := .ref 3) (pc2 := 39) op96_36 sp_0 rfl rfl rfl ?_
          refine rx_gf (v := .ref 4) (pc2 := 42) op96_39 sp_3 rfl rfl rfl ?_
          refine rx_gf (v := .int (m1.1 4 2)) (pc2 := 45) op96_42 sp_4 rfl rfl rfl ?_
          refine ry_ic_lt (tgt := 50) (pc2 := 48) op96_45 (by decide) (by decide) rfl (fun b8 => ?_) (fun b8 => ?_)
          · have h := (if_pos b8).symm.trans h
            refine rx_p (L2 := [some (.ref 0), some (.int a1), some (.int a2)]) (S2 := [.ref 0]) (pc2 := 51) op96_50 rfl rfl ?_
            obtain ⟨m9, f10, h⟩ := rq_bind h
            try dsimp only at h
            refine ry_iv (p := 0) (vs := []) (T := []) (pc2 := 54) op96_51 ms_61 (by decide) rfl rfl (Nat.le_of_ble_eq_true rfl) (Nat.le_of_ble_eq_true rfl) sp_0 (lt_survey_ok xs (by omega)  f10) rfl ?_
            show rn_R _ _ _ _ _ [] _ _ _
            refine rx_p (L2 := [some (.ref 0), some (.int a1), some (.int a2)]) (S2 := [.int a2]) (pc2 := 55) op96_54 rfl rfl ?_
            obtain ⟨x14, gc15, h⟩ := rq_bind h
            try dsimp only at h
            have c15 : ∀ (o12 o13 : Option Value), rn_R xs (d + 1) 96 75 [o12, some (.int a1), o13] [.int x14] (rn_SH, m9) (some (.int rO)) (rn_SH, mO) := by
              intro o12 o13
              refine rx_ic (v := 4) (pc2 := 76) op96_75 (by decide) rfl ?_
              refine rx_p (L2 := [o12, some (.int a1), o13]) (S2 := [.int a1, .int 4, .int x14]) (pc2 := 77) op96_76 rfl rfl ?_
              refine rx_p (L2 := [o12, some (.int a1), o13]) (S2 := [.int ((4 : Int32) * a1), .int x14]) (pc2 := 78) op96_77 rfl rfl ?_
              refine rx_p (L2 := [o12, some (.int a1), o13]) (S2 := [.int (x14 >>> (((4 : Int32) * a1) &&& 31))]) (pc2 := 79) op96_78 rfl rfl ?_
              refine rx_bp (v := 15) (pc2 := 81) op96_79 (by decide) rfl ?_
              refine rx_p (L2 := [o12, some (.int a1), o13]) (S2 := [.int ((x14 >>> (((4 : Int32) * a1) &&& 31)) &&& 15)]) (pc2 := 82) op96_81 rfl rfl ?_
              obtain ⟨rfl, rfl⟩ := rq_ret h
              exact ry_ri op96_82 ms_96 rfl
            refine ry_if_ne (tgt := 68) (pc2 := 58) op96_55 (by decide) (by decide) rfl (fun b11 => ?_) (fun b11 => ?_)
            · have gc15 := (if_pos b11).symm.trans gc15
              refine rx_p (L2 := [some (.ref 0), some (.int a1), some (.int a2)]) (S2 := [.ref 0]) (pc2 := 59) op96_58 rfl rfl ?_
              refine rx_gf (v := .ref 51) (pc2 := 62) op96_59 sp_0 rfl rfl rfl ?_
              refine rx_gf (v := .int (m9.1 51 15)) (pc2 := 65) op96_62 sp_51 rfl rfl rfl ?_
              refine ry_go (tgt := 75) op96_65 (by decide) (by decide) ?_
              cases gc15
              exact c15 _ _
            · have gc15 := (if_neg b11).symm.trans gc15
              refine rx_p (L2 := [some (.ref 0), some (.int a1), some (.int a2)]) (S2 := [.ref 0]) (pc2 := 69) op96_68 rfl rfl ?_
              refine rx_gf (v := .ref 51) (pc2 := 72) op96_69 sp_0 rfl rfl rfl ?_
              refine rx_gf (v := .int (m9.1 51 16)) (pc2 := 75) op96_72 sp_51 rfl rfl rfl ?_
              cases gc15
              exact c15 _ _
          · have h := (if_neg b8).symm.trans h
            refine rx_ic (v := (-1)) (pc2 := 49) op96_48 (by decide) rfl ?_
            obtain ⟨rfl, rfl⟩ := rq_ret h
            exact ry_ri op96_49 ms_96 rfl
  · have h := (if_neg b4).symm.trans h
    refine rx_ic (v := (-1)) (pc2 := 17) op96_16 (by decide) rfl ?_
    obtain ⟨rfl, rfl⟩ := rq_ret h
    exact ry_ri op96_17 ms_96 rfl
/-! lt_first -/
theorem op98_0 : rn_op 98 0 = some (.iload_n 1, 1, 0, 0, 0) := by decide +kernel
theorem op98_1 : rn_op 98 1 = some (.iconst (-1), 1, 0, 0, 0) := by decide +kernel
theorem op98_2 : rn_op 98 2 = some (.if_icmp .lt 9, 3, 0, 0, 0) := by decide +kernel
theorem op98_5 : rn_op 98 5 = some (.iload_n 1, 1, 0, 0, 0) := by decide +kernel
theorem op98_6 : rn_op 98 6 = some (.bipush 12, 2, 0, 0, 0) := by decide +kernel
theorem op98_8 : rn_op 98 8 = some (.if_icmp .lt 5, 3, 0, 0, 0) := by decide +kernel
theorem op98_11 : rn_op 98 11 = some (.iconst (-1), 1, 0, 0, 0) := by decide +kernel
theorem op98_12 : rn_op 98 12 = some (.ireturn, 1, 0, 0, 0) := by decide +kernel
theorem op98_13 : rn_op 98 13 = some (.aload_n 0, 1, 0, 0, 0) := by decide +kernel
theorem op98_14 : rn_op 98 14 = some (.getfield 19, 3, 10, 1, 3) := by decide +kernel
theorem op98_17 : rn_op 98 17 = some (.getfield 93, 3, 6, 1, 3) := by decide +kernel
theorem op98_20 : rn_op 98 20 = some (.getfield 136, 3, 7, 0, 2) := by decide +kernel
theorem op98_23 : rn_op 98 23 = some (.ifCond .ne 6, 3, 0, 0, 0) := by decide +kernel
theorem op98_26 : rn_op 98 26 = some (.bipush (-2), 2, 0, 0, 0) := by decide +kernel
theorem op98_28 : rn_op 98 28 = some (.ireturn, 1, 0, 0, 0) := by decide +kernel
theorem op98_29 : rn_op 98 29 = some (.aload_n 0, 1, 0, 0, 0) := by decide +kernel
theorem op98_30 : rn_op 98 30 = some (.getfield 19, 3, 10, 1, 3) := by decide +kernel
theorem op98_33 : rn_op 98 33 = some (.getfield 62, 3, 6, 0, 3) := by decide +kernel
theorem op98_36 : rn_op 98 36 = some (.invokevirtual 84, 3, 23, 1, 1) := by decide +kernel
theorem op98_39 : rn_op 98 39 = some (.istore_n 2, 1, 0, 0, 0) := by decide +kernel
theorem op98_40 : rn_op 98 40 = some (.iload_n 1, 1, 0, 0, 0) := by decide +kernel
theorem op98_41 : rn_op 98 41 = some (.iload_n 2, 1, 0, 0, 0) := by decide +kernel
theorem op98_42 : rn_op 98 42 = some (.if_icmp .lt 5, 3, 0, 0, 0) := by decide +kernel
theorem op98_45 : rn_op 98 45 = some (.iconst (-1), 1, 0, 0, 0) := by decide +kernel
theorem op98_46 : rn_op 98 46 = some (.ireturn, 1, 0, 0, 0) := by decide +kernel
theorem op98_47 : rn_op 98 47 = some (.aload_n 0, 1, 0, 0, 0) := by decide +kernel
theorem op98_48 : rn_op 98 48 = some (.invokevirtual 179, 3, 61, 1, 10) := by decide +kernel
theorem op98_51 : rn_op 98 51 = some (.aload_n 0, 1, 0, 0, 0) := by decide +kernel
theorem op98_52 : rn_op 98 52 = some (.getfield 32, 3, 10, 4, 3) := by decide +kernel
theorem op98_55 : rn_op 98 55 = some (.getfield 182, 3, 4, 12, 1) := by decide +kernel
theorem op98_58 : rn_op 98 58 = some (.lconst 0, 1, 0, 0, 0) := by decide +kernel
theorem op98_59 : rn_op 98 59 = some (.lcmp, 1, 0, 0, 0) := by decide +kernel
theorem op98_60 : rn_op 98 60 = some (.ifCond .ne 6, 3, 0, 0, 0) := by decide +kernel
theorem op98_63 : rn_op 98 63 = some (.bipush (-4), 2, 0, 0, 0) := by decide +kernel
theorem op98_65 : rn_op 98 65 = some (.ireturn, 1, 0, 0, 0) := by decide +kernel
theorem op98_66 : rn_op 98 66 = some (.aload_n 0, 1, 0, 0, 0) := by decide +kernel
theorem op98_67 : rn_op 98 67 = some (.getfield 32, 3, 10, 4, 3) := by decide +kernel
theorem op98_70 : rn_op 98 70 = some (.getfield 210, 3, 4, 13, 1) := by decide +kernel
theorem op98_73 : rn_op 98 73 = some (.iconst 4, 1, 0, 0, 0) := by decide +kernel
theorem op98_74 : rn_op 98 74 = some (.iload_n 2, 1, 0, 0, 0) := by decide +kernel
theorem op98_75 : rn_op 98 75 = some (.iconst 1, 1, 0, 0, 0) := by decide +kernel
theorem op98_76 : rn_op 98 76 = some (.isub, 1, 0, 0, 0) := by decide +kernel
theorem op98_77 : rn_op 98 77 = some (.iload_n 1, 1, 0, 0, 0) := by decide +kernel
theorem op98_78 : rn_op 98 78 = some (.isub, 1, 0, 0, 0) := by decide +kernel
theorem op98_79 : rn_op 98 79 = some (.imul, 1, 0, 0, 0) := by decide +kernel
theorem op98_80 : rn_op 98 80 = some (.lshr, 1, 0, 0, 0) := by decide +kernel
theorem op98_81 : rn_op 98 81 = some (.l2i, 1, 0, 0, 0) := by decide +kernel
theorem op98_82 : rn_op 98 82 = some (.bipush 15, 2, 0, 0, 0) := by decide +kernel
theorem op98_84 : rn_op 98 84 = some (.iand, 1, 0, 0, 0) := by decide +kernel
theorem op98_85 : rn_op 98 85 = some (.ireturn, 1, 0, 0, 0) := by decide +kernel
def lt_first (n : Nat) (a1 : Int32) (m : rn_Mem) : Option (Int32 × rn_Mem) :=
  if a1 < (-1) then
    some ((-1), m)
  else
    if a1 < 12 then
      if (m.1 5 0) = 0 then
        some ((-2), m)
      else
        (ga_cards n 4 m).bind fun (r5, m4) =>
        if a1 < r5 then
          (lt_survey n m4).bind fun m8 =>
          if (lg_cmp (m8.2 51 12) 0) = 0 then
            some ((-4), m8)
          else
            some ((((m8.2 51 13) >>> (((4 : Int32) * ((r5 - 1) - a1)).toInt64 &&& 63)).toInt32) &&& 15, m8)
        else
          some ((-1), m4)
    else
      some ((-1), m)
set_option maxHeartbeats 4000000 in
set_option maxRecDepth 20000 in
theorem lt_first_ok (xs : List Int32) {d : Nat} (hd : 42 ≤ d) {n : Nat} {a1 : Int32} {m mO : rn_Mem} {rO : Int32} (h : lt_first n a1 m = some (rO, mO)) : rn_R xs d 98 0 (rn_ent 3 [.ref 0, .int a1]) [] (rn_SH, m) (some (.int rO)) (rn_SH, mO) := by
  obtain ⟨d, rfl⟩ : ∃ e, d = e + 1 := ⟨d - 1, by omega⟩
  unfold lt_first at h
  show rn_R xs (d + 1) 98 0 [some (.ref 0), some (.int a1), none] [] (rn_SH, m) (some (.int rO)) (rn_SH, mO)
  refine rx_p (L2 := [some (.ref 0), some (.int a1), none]) (S2 := [.int a1]) (pc2 := 1) op98_0 rfl rfl ?_
  refine rx_ic (v := (-1)) (pc2 := 2) op98_1 (by decide) rfl ?_
  refine ry_ic_lt (tgt := 11) (pc2 := 5) op98_2 (by decide) (by decide) rfl (fun b1 => ?_) (fun b1 => ?_)
  · have h := (if_pos b1).symm.trans h
    refine rx_ic (v := (-1)) (pc2 := 12) op98_11 (by decide) rfl ?_
    obtain ⟨rfl, rfl⟩ := rq_ret h
    exact ry_ri op98_12 ms_98 rfl
  · have h := (if_neg b1).symm.trans h
    refine rx_p (L2 := [some (.ref 0), some (.int a1), none]) (S2 := [.int a1]) (pc2 := 6) op98_5 rfl rfl ?_
    refine rx_bp (v := 12) (pc2 := 8) op98_6 (by decide) rfl ?_
    refine ry_ic_lt (tgt := 13) (pc2 := 11) op98_8 (by decide) (by decide) rfl (fun b2 => ?_) (fun b2 => ?_)
    · have h := (if_pos b2).symm.trans h
      refine rx_p (L2 := [some (.ref 0), some (.int a1), none]) (S2 := [.ref 0]) (pc2 := 14) op98_13 rfl rfl ?_
      refine rx_gf (v := .ref 3) (pc2 := 17) op98_14 sp_0 rfl rfl rfl ?_
      refine rx_gf (v := .ref 5) (pc2 := 20) op98_17 sp_3 rfl rfl rfl ?_
      refine rx_gf (v := .int (m.1 5 0)) (pc2 := 23) op98_20 sp_5 rfl rfl rfl ?_
      refine ry_if_ne (tgt := 29) (pc2 := 26) op98_23 (by decide) (by decide) rfl (fun b3 => ?_) (fun b3 => ?_)
      · have h := (if_pos b3).symm.trans h
        refine rx_bp (v := (-2)) (pc2 := 28) op98_26 (by decide) rfl ?_
        obtain ⟨rfl, rfl⟩ := rq_ret h
        exact ry_ri op98_28 ms_98 rfl
      · have h := (if_neg b3).symm.trans h
        refine rx_p (L2 := [some (.ref 0), some (.int a1), none]) (S2 := [.ref 0]) (pc2 := 30) op98_29 rfl rfl ?_
        refine rx_gf (v := .ref 3) (pc2 := 33) op98_30 sp_0 rfl rfl rfl ?_
        refine rx_gf (v := .ref 4) (pc2 := 36) op98_33 sp_3 rfl rfl rfl ?_
        obtain ⟨⟨r5, m4⟩, f6, h⟩ := rq_bind h
        try dsimp only at h
        refine ry_iv (p := 4) (vs := []) (T := []) (pc2 := 39) op98_36 ms_23 (by decide) rfl rfl (Nat.le_of_ble_eq_true rfl) (Nat.le_of_ble_eq_true rfl) sp_4 (ga_cards_ok xs (by omega) sa_4 f6) rfl ?_
        show rn_R _ _ _ _ _ [.int r5] _ _ _
        refine rx_s (L2 := [some (.ref 0), some (.int a1), some (.int r5)]) (pc2 := 40) op98_39 rfl rfl rfl ?_
        refine rx_p (L2 := [some (.ref 0), some (.int a1), some (.int r5)]) (S2 := [.int a1]) (pc2 := 41) op98_40 rfl rfl ?_
        refine rx_p (L2 := [some (.ref 0), some (.int a1), some (.int r5)]) (S2 := [.int r5, .int a1]) (pc2 := 42) op98_41 rfl rfl ?_
        refine ry_ic_lt (tgt := 47) (pc2 := 45) op98_42 (by decide) (by decide) rfl (fun b7 => ?_) (fun b7 => ?_)
        · have h := (if_pos b7).symm.trans h
          refine rx_p (L2 := [some (.ref 0), some (.int a1), some (.int r5)]) (S2 := [.ref 0]) (pc2 := 48) op98_47 rfl rfl ?_
          obtain ⟨m8, f9, h⟩ := rq_bind h
          try dsimp only at h
          refine ry_iv (p := 0) (vs := []) (T := []) (pc2 := 51) op98_48 ms_61 (by decide) rfl rfl (Nat.le_of_ble_eq_true rfl) (Nat.le_of_ble_eq_true rfl) sp_0 (lt_survey_ok xs (by omega)  f9) rfl ?_
          show rn_R _ _ _ _ _ [] _ _ _
          refine rx_p (L2 := [some (.ref 0), some (.int a1), some (.int r5)]) (S2 := [.ref 0]) (pc2 := 52) op98_51 rfl rfl ?_
          refine rx_gf (v := .ref 51) (pc2 := 55) op98_52 sp_0 rfl rfl rfl ?_
          refine rx_gf (v := .long (m8.2 51 12)) (pc2 := 58) op98_55 sp_51 rfl rfl rfl ?_
          refine rx_lc (v := 0) (pc2 := 59) op98_58 (by decide) rfl ?_
          refine rx_p (L2 := [some (.ref 0), some (.int a1), some (.int r5)]) (S2 := [.int (lg_cmp (m8.2 51 12) 0)]) (pc2 := 60) op98_59 rfl rfl ?_
          refine ry_if_ne (tgt := 66) (pc2 := 63) op98_60 (by decide) (by decide) rfl (fun b10 => ?_) (fun b10 => ?_)
          · have h := (if_pos b10).symm.trans h
            refine rx_bp (v := (-4)) (pc2 := 65) op98_63 (by decide) rfl ?_
            obtain ⟨rfl, rfl⟩ := rq_ret h
            exact ry_ri op98_65 ms_98 rfl
          · have h := (if_neg b10).symm.trans h
            refine rx_p (L2 := [some (.ref 0), some (.int a1), some (.int r5)]) (S2 := [.ref 0]) (pc2 := 67) op98_66 rfl rfl ?_
            refine rx_gf (v := .ref 51) (pc2 := 70) op98_67 sp_0 rfl rfl rfl ?_
            refine rx_gf (v := .long (m8.2 51 13)) (pc2 := 73) op98_70 sp_51 rfl rfl rfl ?_
            refine rx_ic (v := 4) (pc2 := 74) op98_73 (by decide) rfl ?_
            refine rx_p (L2 := [some (.ref 0), some (.int a1), some (.int r5)]) (S2 := [.int r5, .int 4, .long (m8.2 51 13)]) (pc2 := 75) op98_74 rfl rfl ?_
            refine rx_ic (v := 1) (pc2 := 76) op98_75 (by decide) rfl ?_
            refine rx_p (L2 := [some (.ref 0), some (.int a1), some (.int r5)]) (S2 := [.int (r5 - 1), .int 4, .long (m8.2 51 13)]) (pc2 := 77) op98_76 rfl rfl ?_
            refine rx_p (L2 := [some (.ref 0), some (.int a1), some (.int r5)]) (S2 := [.int a1, .int (r5 - 1), .int 4, .long (m8.2 51 13)]) (pc2 := 78) op98_77 rfl rfl ?_
            refine rx_p (L2 := [some (.ref 0), some (.int a1), some (.int r5)]) (S2 := [.int ((r5 - 1) - a1), .int 4, .long (m8.2 51 13)]) (pc2 := 79) op98_78 rfl rfl ?_
            refine rx_p (L2 := [some (.ref 0), some (.int a1), some (.int r5)]) (S2 := [.int ((4 : Int32) * ((r5 - 1) - a1)), .long (m8.2 51 13)]) (pc2 := 80) op98_79 rfl rfl ?_
            refine rx_p (L2 := [some (.ref 0), some (.int a1), some (.int r5)]) (S2 := [.long ((m8.2 51 13) >>> (((4 : Int32) * ((r5 - 1) - a1)).toInt64 &&& 63))]) (pc2 := 81) op98_80 rfl rfl ?_
            refine rx_p (L2 := [some (.ref 0), some (.int a1), some (.int r5)]) (S2 := [.int (((m8.2 51 13) >>> (((4 : Int32) * ((r5 - 1) - a1)).toInt64 &&& 63)).toInt32)]) (pc2 := 82) op98_81 rfl rfl ?_
            refine rx_bp (v := 15) (pc2 := 84) op98_82 (by decide) rfl ?_
            refine rx_p (L2 := [some (.ref 0), some (.int a1), some (.int r5)]) (S2 := [.int ((((m8.2 51 13) >>> (((4 : Int32) * ((r5 - 1) - a1)).toInt64 &&& 63)).toInt32) &&& 15)]) (pc2 := 85) op98_84 rfl rfl ?_
            obtain ⟨rfl, rfl⟩ := rq_ret h
            exact ry_ri op98_85 ms_98 rfl
        · have h := (if_neg b7).symm.trans h
          refine rx_ic (v := (-1)) (pc2 := 46) op98_45 (by decide) rfl ?_
          obtain ⟨rfl, rfl⟩ := rq_ret h
          exact ry_ri op98_46 ms_98 rfl
    · have h := (if_neg b2).symm.trans h
      refine rx_ic (v := (-1)) (pc2 := 12) op98_11 (by decide) rfl ?_
      obtain ⟨rfl, rfl⟩ := rq_ret h
      exact ry_ri op98_12 ms_98 rfl
/-! se_findFewest -/
theorem op100_0 : rn_op 100 0 = some (.aload_n 0, 1, 0, 0, 0) := by decide +kernel
theorem op100_1 : rn_op 100 1 = some (.iconst 2, 1, 0, 0, 0) := by decide +kernel
theorem op100_2 : rn_op 100 2 = some (.putfield 76, 3, 4, 10, 0) := by decide +kernel
theorem op100_5 : rn_op 100 5 = some (.iconst 0, 1, 0, 0, 0) := by decide +kernel
theorem op100_6 : rn_op 100 6 = some (.istore_n 1, 1, 0, 0, 0) := by decide +kernel
theorem op100_7 : rn_op 100 7 = some (.iload_n 1, 1, 0, 0, 0) := by decide +kernel
theorem op100_8 : rn_op 100 8 = some (.iconst 4, 1, 0, 0, 0) := by decide +kernel
theorem op100_9 : rn_op 100 9 = some (.if_icmp .gt 32, 3, 0, 0, 0) := by decide +kernel
theorem op100_12 : rn_op 100 12 = some (.aload_n 0, 1, 0, 0, 0) := by decide +kernel
theorem op100_13 : rn_op 100 13 = some (.getfield 57, 3, 4, 19, 3) := by decide +kernel
theorem op100_16 : rn_op 100 16 = some (.iload_n 1, 1, 0, 0, 0) := by decide +kernel
theorem op100_17 : rn_op 100 17 = some (.iload_n 1, 1, 0, 0, 0) := by decide +kernel
theorem op100_18 : rn_op 100 18 = some (.aload_n 0, 1, 0, 0, 0) := by decide +kernel
theorem op100_19 : rn_op 100 19 = some (.getfield 12, 3, 4, 0, 3) := by decide +kernel
theorem op100_22 : rn_op 100 22 = some (.getfield 101, 3, 1, 1, 0) := by decide +kernel
theorem op100_25 : rn_op 100 25 = some (.if_icmp .gt 8, 3, 0, 0, 0) := by decide +kernel
theorem op100_28 : rn_op 100 28 = some (.bipush 99, 2, 0, 0, 0) := by decide +kernel
theorem op100_30 : rn_op 100 30 = some (.goto 4, 3, 0, 0, 0) := by decide +kernel
theorem op100_33 : rn_op 100 33 = some (.iconst 0, 1, 0, 0, 0) := by decide +kernel
theorem op100_34 : rn_op 100 34 = some (.iastore, 1, 0, 0, 0) := by decide +kernel
theorem op100_35 : rn_op 100 35 = some (.iinc 1 1, 3, 0, 0, 0) := by decide +kernel
theorem op100_38 : rn_op 100 38 = some (.goto (-31), 3, 0, 0, 0) := by decide +kernel
theorem op100_41 : rn_op 100 41 = some (.aload_n 0, 1, 0, 0, 0) := by decide +kernel
theorem op100_42 : rn_op 100 42 = some (.invokevirtual 98, 3, 65, 1, 4) := by decide +kernel
theorem op100_45 : rn_op 100 45 = some (.return_, 1, 0, 0, 0) := by decide +kernel
def se_findFewest_l7  : Nat → Int32 → rn_Mem → Option (rn_Mem)
  | 0, _, _ => none
  | n + 1, a1, m =>
    if 4 < a1 then
      some m
    else
      (show Option (Int32) from
        if (m.1 52 1) < a1 then
          some (0)
        else
          some (99)).bind fun x4 =>
      if rn_in a1 5 = true then
        (some (rm_i m 69 a1.toNatClampNeg x4)).bind fun (m5 : rn_Mem) =>
        (some (a1 + 1)).bind fun (x7 : Int32) =>
        se_findFewest_l7 n x7 m5
      else none
def se_findFewest (n : Nat)  (m : rn_Mem) : Option (rn_Mem) :=
  (some (rm_i m 51 10 2)).bind fun (m1 : rn_Mem) =>
  (se_findFewest_l7 n 0 m1).bind fun m9 =>
  (se_run n m9).bind fun m11 =>
  some m11
set_option maxHeartbeats 4000000 in
set_option maxRecDepth 20000 in
theorem se_findFewest_l7_ok (xs : List Int32) {d : Nat} (hd : 40 ≤ d + 1) {r : Option Value} {τ : rn_H} {out : rn_Mem} (hr : ∀ (mO : rn_Mem), out = mO → ∀ (o1 : Option Value), rn_R xs (d + 1) 100 41 [some (.ref 51), o1] [] (rn_SH, mO) r τ) : ∀ (n : Nat) (a1 : Int32) (m : rn_Mem), se_findFewest_l7 n a1 m = some out → rn_R xs (d + 1) 100 7 [some (.ref 51), some (.int a1)] [] (rn_SH, m) r τ := by
  intro n
  induction n with
  | zero =>
    intro _ _ h
    cases h
  | succ n ih =>
    intro a1 m h
    unfold se_findFewest_l7 at h
    try dsimp only at h
    refine rx_p (L2 := [some (.ref 51), some (.int a1)]) (S2 := [.int a1]) (pc2 := 8) op100_7 rfl rfl ?_
    refine rx_ic (v := 4) (pc2 := 9) op100_8 (by decide) rfl ?_
    refine ry_ic_gt (tgt := 41) (pc2 := 12) op100_9 (by decide) (by decide) rfl (fun b2 => ?_) (fun b2 => ?_)
    · have h := (if_pos b2).symm.trans h
      cases h
      exact hr _ rfl _
    · have h := (if_neg b2).symm.trans h
      refine rx_p (L2 := [some (.ref 51), some (.int a1)]) (S2 := [.ref 51]) (pc2 := 13) op100_12 rfl rfl ?_
      refine rx_gf (v := .ref 69) (pc2 := 16) op100_13 sp_51 rfl rfl rfl ?_
      refine rx_p (L2 := [some (.ref 51), some (.int a1)]) (S2 := [.int a1, .ref 69]) (pc2 := 17) op100_16 rfl rfl ?_
      refine rx_p (L2 := [some (.ref 51), some (.int a1)]) (S2 := [.int a1, .int a1, .ref 69]) (pc2 := 18) op100_17 rfl rfl ?_
      refine rx_p (L2 := [some (.ref 51), some (.int a1)]) (S2 := [.ref 51, .int a1, .int a1, .ref 69]) (pc2 := 19) op100_18 rfl rfl ?_
      refine rx_gf (v := .ref 52) (pc2 := 22) op100_19 sp_51 rfl rfl rfl ?_
      refine rx_gf (v := .int (m.1 52 1)) (pc2 := 25) op100_22 sp_52 rfl rfl rfl ?_
      obtain ⟨x4, gc8, h⟩ := rq_bind h
      try dsimp only at h
      have c8 : ∀ (_ : Unit), rn_R xs (d + 1) 100 34 [some (.ref 51), some (.int a1)] [.int x4, .int a1, .ref 69] (rn_SH, m) r τ := by
        intro _
        obtain ⟨k6, h⟩ := rq_chk h
        obtain ⟨m5, em5, h⟩ := rq_bv h
        refine rx_is (m2 := m5) (pc2 := 35) op100_34 sp_69 k6 rfl em5 rfl ?_
        obtain ⟨x7, ex7, h⟩ := rq_bv h
        refine rx_inc (w := 1) (v := x7) (L2 := [some (.ref 51), some (.int x7)]) (pc2 := 38) op100_35 rfl (by decide) ex7 rfl rfl ?_
        refine ry_go (tgt := 7) op100_38 (by decide) (by decide) ?_
        exact ih _ _ h
      refine ry_ic_gt (tgt := 33) (pc2 := 28) op100_25 (by decide) (by decide) rfl (fun b3 => ?_) (fun b3 => ?_)
      · have gc8 := (if_pos b3).symm.trans gc8
        refine rx_ic (v := 0) (pc2 := 34) op100_33 (by decide) rfl ?_
        cases gc8
        exact c8 ()
      · have gc8 := (if_neg b3).symm.trans gc8
        refine rx_bp (v := 99) (pc2 := 30) op100_28 (by decide) rfl ?_
        refine ry_go (tgt := 34) op100_30 (by decide) (by decide) ?_
        cases gc8
        exact c8 ()
set_option maxHeartbeats 4000000 in
set_option maxRecDepth 20000 in
theorem se_findFewest_ok (xs : List Int32) {d : Nat} (hd : 40 ≤ d) {n : Nat} {m mO : rn_Mem} (h : se_findFewest n  m = some mO) : rn_R xs d 100 0 (rn_ent 2 [.ref 51]) [] (rn_SH, m) none (rn_SH, mO) := by
  obtain ⟨d, rfl⟩ : ∃ e, d = e + 1 := ⟨d - 1, by omega⟩
  unfold se_findFewest at h
  show rn_R xs (d + 1) 100 0 [some (.ref 51), none] [] (rn_SH, m) none (rn_SH, mO)
  refine rx_p (L2 := [some (.ref 51), none]) (S2 := [.ref 51]) (pc2 := 1) op100_0 rfl rfl ?_
  refine rx_ic (v := 2) (pc2 := 2) op100_1 (by decide) rfl ?_
  obtain ⟨m1, em1, h⟩ := rq_bv h
  refine rx_pf (m2 := m1) (pc2 := 5) op100_2 sp_51 rfl em1 rfl ?_
  refine rx_ic (v := 0) (pc2 := 6) op100_5 (by decide) rfl ?_
  refine rx_s (L2 := [some (.ref 51), some (.int 0)]) (pc2 := 7) op100_6 rfl rfl rfl ?_
  obtain ⟨m9, f13, h⟩ := rq_bind h
  refine se_findFewest_l7_ok xs hd (fun m0 eq => ?_) _ _ _  f13
  subst eq
  try dsimp only at h
  intro o10
  refine rx_p (L2 := [some (.ref 51), o10]) (S2 := [.ref 51]) (pc2 := 42) op100_41 rfl rfl ?_
  obtain ⟨m11, f12, h⟩ := rq_bind h
  try dsimp only at h
  refine ry_iv (p := 51) (vs := []) (T := []) (pc2 := 45) op100_42 ms_65 (by decide) rfl rfl (Nat.le_of_ble_eq_true rfl) (Nat.le_of_ble_eq_true rfl) sp_51 (se_run_ok xs (by omega)  f12) rfl ?_
  show rn_R _ _ _ _ _ [] _ _ _
  obtain rfl := Option.some.inj h
  exact ry_rv op100_45 ms_100 rfl
/-! lt_fewest -/
theorem op99_0 : rn_op 99 0 = some (.iload_n 1, 1, 0, 0, 0) := by decide +kernel
theorem op99_1 : rn_op 99 1 = some (.iconst (-1), 1, 0, 0, 0) := by decide +kernel
theorem op99_2 : rn_op 99 2 = some (.if_icmp .lt 8, 3, 0, 0, 0) := by decide +kernel
theorem op99_5 : rn_op 99 5 = some (.iload_n 1, 1, 0, 0, 0) := by decide +kernel
theorem op99_6 : rn_op 99 6 = some (.iconst 4, 1, 0, 0, 0) := by decide +kernel
theorem op99_7 : rn_op 99 7 = some (.if_icmp .lt 5, 3, 0, 0, 0) := by decide +kernel
theorem op99_10 : rn_op 99 10 = some (.iconst (-1), 1, 0, 0, 0) := by decide +kernel
theorem op99_11 : rn_op 99 11 = some (.ireturn, 1, 0, 0, 0) := by decide +kernel
theorem op99_12 : rn_op 99 12 = some (.aload_n 0, 1, 0, 0, 0) := by decide +kernel
theorem op99_13 : rn_op 99 13 = some (.getfield 19, 3, 10, 1, 3) := by decide +kernel
theorem op99_16 : rn_op 99 16 = some (.getfield 93, 3, 6, 1, 3) := by decide +kernel
theorem op99_19 : rn_op 99 19 = some (.getfield 136, 3, 7, 0, 2) := by decide +kernel
theorem op99_22 : rn_op 99 22 = some (.ifCond .ne 6, 3, 0, 0, 0) := by decide +kernel
theorem op99_25 : rn_op 99 25 = some (.bipush (-2), 2, 0, 0, 0) := by decide +kernel
theorem op99_27 : rn_op 99 27 = some (.ireturn, 1, 0, 0, 0) := by decide +kernel
theorem op99_28 : rn_op 99 28 = some (.iload_n 1, 1, 0, 0, 0) := by decide +kernel
theorem op99_29 : rn_op 99 29 = some (.aload_n 0, 1, 0, 0, 0) := by decide +kernel
theorem op99_30 : rn_op 99 30 = some (.getfield 19, 3, 10, 1, 3) := by decide +kernel
theorem op99_33 : rn_op 99 33 = some (.getfield 62, 3, 6, 0, 3) := by decide +kernel
theorem op99_36 : rn_op 99 36 = some (.getfield 118, 3, 1, 1, 0) := by decide +kernel
theorem op99_39 : rn_op 99 39 = some (.if_icmp .lt 5, 3, 0, 0, 0) := by decide +kernel
theorem op99_42 : rn_op 99 42 = some (.iconst (-1), 1, 0, 0, 0) := by decide +kernel
theorem op99_43 : rn_op 99 43 = some (.ireturn, 1, 0, 0, 0) := by decide +kernel
theorem op99_44 : rn_op 99 44 = some (.aload_n 0, 1, 0, 0, 0) := by decide +kernel
theorem op99_45 : rn_op 99 45 = some (.getfield 81, 3, 10, 8, 0) := by decide +kernel
theorem op99_48 : rn_op 99 48 = some (.iconst 2, 1, 0, 0, 0) := by decide +kernel
theorem op99_49 : rn_op 99 49 = some (.iand, 1, 0, 0, 0) := by decide +kernel
theorem op99_50 : rn_op 99 50 = some (.ifCond .ne 31, 3, 0, 0, 0) := by decide +kernel
theorem op99_53 : rn_op 99 53 = some (.aload_n 0, 1, 0, 0, 0) := by decide +kernel
theorem op99_54 : rn_op 99 54 = some (.getfield 32, 3, 10, 4, 3) := by decide +kernel
theorem op99_57 : rn_op 99 57 = some (.aload_n 0, 1, 0, 0, 0) := by decide +kernel
theorem op99_58 : rn_op 99 58 = some (.getfield 19, 3, 10, 1, 3) := by decide +kernel
theorem op99_61 : rn_op 99 61 = some (.invokevirtual 213, 3, 62, 2, 4) := by decide +kernel
theorem op99_64 : rn_op 99 64 = some (.aload_n 0, 1, 0, 0, 0) := by decide +kernel
theorem op99_65 : rn_op 99 65 = some (.getfield 32, 3, 10, 4, 3) := by decide +kernel
theorem op99_68 : rn_op 99 68 = some (.invokevirtual 217, 3, 100, 1, 4) := by decide +kernel
theorem op99_71 : rn_op 99 71 = some (.aload_n 0, 1, 0, 0, 0) := by decide +kernel
theorem op99_72 : rn_op 99 72 = some (.dup, 1, 0, 0, 0) := by decide +kernel
theorem op99_73 : rn_op 99 73 = some (.getfield 81, 3, 10, 8, 0) := by decide +kernel
theorem op99_76 : rn_op 99 76 = some (.iconst 2, 1, 0, 0, 0) := by decide +kernel
theorem op99_77 : rn_op 99 77 = some (.ior, 1, 0, 0, 0) := by decide +kernel
theorem op99_78 : rn_op 99 78 = some (.putfield 81, 3, 10, 8, 0) := by decide +kernel
theorem op99_81 : rn_op 99 81 = some (.aload_n 0, 1, 0, 0, 0) := by decide +kernel
theorem op99_82 : rn_op 99 82 = some (.getfield 32, 3, 10, 4, 3) := by decide +kernel
theorem op99_85 : rn_op 99 85 = some (.getfield 220, 3, 4, 19, 3) := by decide +kernel
theorem op99_88 : rn_op 99 88 = some (.iload_n 1, 1, 0, 0, 0) := by decide +kernel
theorem op99_89 : rn_op 99 89 = some (.iconst 1, 1, 0, 0, 0) := by decide +kernel
theorem op99_90 : rn_op 99 90 = some (.iadd, 1, 0, 0, 0) := by decide +kernel
theorem op99_91 : rn_op 99 91 = some (.iaload, 1, 0, 0, 0) := by decide +kernel
theorem op99_92 : rn_op 99 92 = some (.istore_n 2, 1, 0, 0, 0) := by decide +kernel
theorem op99_93 : rn_op 99 93 = some (.iload_n 2, 1, 0, 0, 0) := by decide +kernel
theorem op99_94 : rn_op 99 94 = some (.bipush 99, 2, 0, 0, 0) := by decide +kernel
theorem op99_96 : rn_op 99 96 = some (.if_icmp .ne 8, 3, 0, 0, 0) := by decide +kernel
theorem op99_99 : rn_op 99 99 = some (.bipush (-4), 2, 0, 0, 0) := by decide +kernel
theorem op99_101 : rn_op 99 101 = some (.goto 4, 3, 0, 0, 0) := by decide +kernel
theorem op99_104 : rn_op 99 104 = some (.iload_n 2, 1, 0, 0, 0) := by decide +kernel
theorem op99_105 : rn_op 99 105 = some (.ireturn, 1, 0, 0, 0) := by decide +kernel
def lt_fewest (n : Nat) (a1 : Int32) (m : rn_Mem) : Option (Int32 × rn_Mem) :=
  if a1 < (-1) then
    some ((-1), m)
  else
    if a1 < 4 then
      if (m.1 5 0) = 0 then
        some ((-2), m)
      else
        if a1 < (m.1 4 1) then
          (show Option (rn_Mem) from
            if ((m.1 0 8) &&& 2) = 0 then
              (se_take n 3 m).bind fun m6 =>
              (se_findFewest n m6).bind fun m8 =>
              (some (rm_i m8 0 8 ((m8.1 0 8) ||| 2))).bind fun (m10 : rn_Mem) =>
              some (m10)
            else
              some (m)).bind fun m12 =>
          if rn_in (a1 + 1) 5 = true then
            (some (m12.1 69 (a1 + 1).toNatClampNeg)).bind fun (x14 : Int32) =>
            if x14 = 99 then
              some ((-4), m12)
            else
              some (x14, m12)
          else none
        else
          some ((-1), m)
    else
      some ((-1), m)
set_option maxHeartbeats 4000000 in
set_option maxRecDepth 20000 in
theorem lt_fewest_ok (xs : List Int32) {d : Nat} (hd : 41 ≤ d) {n : Nat} {a1 : Int32} {m mO : rn_Mem} {rO : Int32} (h : lt_fewest n a1 m = some (rO, mO)) : rn_R xs d 99 0 (rn_ent 3 [.ref 0, .int a1]) [] (rn_SH, m) (some (.int rO)) (rn_SH, mO) := by
  obtain ⟨d, rfl⟩ : ∃ e, d = e + 1 := ⟨d - 1, by omega⟩
  unfold lt_fewest at h
  show rn_R xs (d + 1) 99 0 [some (.ref 0), some (.int a1), none] [] (rn_SH, m) (some (.int rO)) (rn_SH, mO)
  refine rx_p (L2 := [some (.ref 0), some (.int a1), none]) (S2 := [.int a1]) (pc2 := 1) op99_0 rfl rfl ?_
  refine rx_ic (v := (-1)) (pc2 := 2) op99_1 (by decide) rfl ?_
  refine ry_ic_lt (tgt := 10) (pc2 := 5) op99_2 (by decide) (by decide) rfl (fun b1 => ?_) (fun b1 => ?_)
  · have h := (if_pos b1).symm.trans h
    refine rx_ic (v := (-1)) (pc2 := 11) op99_10 (by decide) rfl ?_
    obtain ⟨rfl, rfl⟩ := rq_ret h
    exact ry_ri op99_11 ms_99 rfl
  · have h := (if_neg b1).symm.trans h
    refine rx_p (L2 := [some (.ref 0), some (.int a1), none]) (S2 := [.int a1]) (pc2 := 6) op99_5 rfl rfl ?_
    refine rx_ic (v := 4) (pc2 := 7) op99_6 (by decide) rfl ?_
    refine ry_ic_lt (tgt := 12) (pc2 := 10) op99_7 (by decide) (by decide) rfl (fun b2 => ?_) (fun b2 => ?_)
    · have h := (if_pos b2).symm.trans h
      refine rx_p (L2 := [some (.ref 0), some (.int a1), none]) (S2 := [.ref 0]) (pc2 := 13) op99_12 rfl rfl ?_
      refine rx_gf (v := .ref 3) (pc2 := 16) op99_13 sp_0 rfl rfl rfl ?_
      refine rx_gf (v := .ref 5) (pc2 := 19) op99_16 sp_3 rfl rfl rfl ?_
      refine rx_gf (v := .int (m.1 5 0)) (pc2 := 22) op99_19 sp_5 rfl rfl rfl ?_
      refine ry_if_ne (tgt := 28) (pc2 := 25) op99_22 (by decide) (by decide) rfl (fun b3 => ?_) (fun b3 => ?_)
      · have h := (if_pos b3).symm.trans h
        refine rx_bp (v := (-2)) (pc2 := 27) op99_25 (by decide) rfl ?_
        obtain ⟨rfl, rfl⟩ := rq_ret h
        exact ry_ri op99_27 ms_99 rfl
      · have h := (if_neg b3).symm.trans h
        refine rx_p (L2 := [some (.ref 0), some (.int a1), none]) (S2 := [.int a1]) (pc2 := 29) op99_28 rfl rfl ?_
        refine rx_p (L2 := [some (.ref 0), some (.int a1), none]) (S2 := [.ref 0, .int a1]) (pc2 := 30) op99_29 rfl rfl ?_
        refine rx_gf (v := .ref 3) (pc2 := 33) op99_30 sp_0 rfl rfl rfl ?_
        refine rx_gf (v := .ref 4) (pc2 := 36) op99_33 sp_3 rfl rfl rfl ?_
        refine rx_gf (v := .int (m.1 4 1)) (pc2 := 39) op99_36 sp_4 rfl rfl rfl ?_
        refine ry_ic_lt (tgt := 44) (pc2 := 42) op99_39 (by decide) (by decide) rfl (fun b4 => ?_) (fun b4 => ?_)
        · have h := (if_pos b4).symm.trans h
          refine rx_p (L2 := [some (.ref 0), some (.int a1), none]) (S2 := [.ref 0]) (pc2 := 45) op99_44 rfl rfl ?_
          refine rx_gf (v := .int (m.1 0 8)) (pc2 := 48) op99_45 sp_0 rfl rfl rfl ?_
          refine rx_ic (v := 2) (pc2 := 49) op99_48 (by decide) rfl ?_
          refine rx_p (L2 := [some (.ref 0), some (.int a1), none]) (S2 := [.int ((m.1 0 8) &&& 2)]) (pc2 := 50) op99_49 rfl rfl ?_
          obtain ⟨m12, gc16, h⟩ := rq_bind h
          try dsimp only at h
          have c16 : ∀ (o11 : Option Value), rn_R xs (d + 1) 99 81 [some (.ref 0), some (.int a1), o11] [] (rn_SH, m12) (some (.int rO)) (rn_SH, mO) := by
            intro o11
            refine rx_p (L2 := [some (.ref 0), some (.int a1), o11]) (S2 := [.ref 0]) (pc2 := 82) op99_81 rfl rfl ?_
            refine rx_gf (v := .ref 51) (pc2 := 85) op99_82 sp_0 rfl rfl rfl ?_
            refine rx_gf (v := .ref 69) (pc2 := 88) op99_85 sp_51 rfl rfl rfl ?_
            refine rx_p (L2 := [some (.ref 0), some (.int a1), o11]) (S2 := [.int a1, .ref 69]) (pc2 := 89) op99_88 rfl rfl ?_
            refine rx_ic (v := 1) (pc2 := 90) op99_89 (by decide) rfl ?_
            refine rx_p (L2 := [some (.ref 0), some (.int a1), o11]) (S2 := [.int (a1 + 1), .ref 69]) (pc2 := 91) op99_90 rfl rfl ?_
            obtain ⟨k13, h⟩ := rq_chk h
            refine rx_ia (pc2 := 92) op99_91 (rn_shlt sp_69) sp_69 k13 rfl rfl ?_
            obtain ⟨x14, ex14, h⟩ := rq_bv h
            refine rx_s (v := x14) (L2 := [some (.ref 0), some (.int a1), some (.int x14)]) (pc2 := 93) op99_92 ex14 rfl rfl ?_
            refine rx_p (L2 := [some (.ref 0), some (.int a1), some (.int x14)]) (S2 := [.int x14]) (pc2 := 94) op99_93 rfl rfl ?_
            refine rx_bp (v := 99) (pc2 := 96) op99_94 (by decide) rfl ?_
            refine ry_ic_ne (tgt := 104) (pc2 := 99) op99_96 (by decide) (by decide) rfl (fun b15 => ?_) (fun b15 => ?_)
            · have h := (if_pos b15).symm.trans h
              refine rx_bp (v := (-4)) (pc2 := 101) op99_99 (by decide) rfl ?_
              refine ry_go (tgt := 105) op99_101 (by decide) (by decide) ?_
              obtain ⟨rfl, rfl⟩ := rq_ret h
              exact ry_ri op99_105 ms_99 rfl
            · have h := (if_neg b15).symm.trans h
              refine rx_p (L2 := [some (.ref 0), some (.int a1), some (.int x14)]) (S2 := [.int x14]) (pc2 := 105) op99_104 rfl rfl ?_
              obtain ⟨rfl, rfl⟩ := rq_ret h
              exact ry_ri op99_105 ms_99 rfl
          refine ry_if_ne (tgt := 81) (pc2 := 53) op99_50 (by decide) (by decide) rfl (fun b5 => ?_) (fun b5 => ?_)
          · have gc16 := (if_pos b5).symm.trans gc16
            refine rx_p (L2 := [some (.ref 0), some (.int a1), none]) (S2 := [.ref 0]) (pc2 := 54) op99_53 rfl rfl ?_
            refine rx_gf (v := .ref 51) (pc2 := 57) op99_54 sp_0 rfl rfl rfl ?_
            refine rx_p (L2 := [some (.ref 0), some (.int a1), none]) (S2 := [.ref 0, .ref 51]) (pc2 := 58) op99_57 rfl rfl ?_
            refine rx_gf (v := .ref 3) (pc2 := 61) op99_58 sp_0 rfl rfl rfl ?_
            obtain ⟨m6, f7, gc16⟩ := rq_bind gc16
            try dsimp only at gc16
            refine ry_iv (p := 51) (vs := [.ref 3]) (T := []) (pc2 := 64) op99_61 ms_62 (by decide) rfl rfl (Nat.le_of_ble_eq_true rfl) (Nat.le_of_ble_eq_true rfl) sp_51 (se_take_ok xs (by omega) sa_3 f7) rfl ?_
            show rn_R _ _ _ _ _ [] _ _ _
            refine rx_p (L2 := [some (.ref 0), some (.int a1), none]) (S2 := [.ref 0]) (pc2 := 65) op99_64 rfl rfl ?_
            refine rx_gf (v := .ref 51) (pc2 := 68) op99_65 sp_0 rfl rfl rfl ?_
            obtain ⟨m8, f9, gc16⟩ := rq_bind gc16
            try dsimp only at gc16
            refine ry_iv (p := 51) (vs := []) (T := []) (pc2 := 71) op99_68 ms_100 (by decide) rfl rfl (Nat.le_of_ble_eq_true rfl) (Nat.le_of_ble_eq_true rfl) sp_51 (se_findFewest_ok xs (by omega)  f9) rfl ?_
            show rn_R _ _ _ _ _ [] _ _ _
            refine rx_p (L2 := [some (.ref 0), some (.int a1), none]) (S2 := [.ref 0]) (pc2 := 72) op99_71 rfl rfl ?_
            refine rx_p (L2 := [some (.ref 0), some (.int a1), none]) (S2 := [.ref 0, .ref 0]) (pc2 := 73) op99_72 rfl rfl ?_
            refine rx_gf (v := .int (m8.1 0 8)) (pc2 := 76) op99_73 sp_0 rfl rfl rfl ?_
            refine rx_ic (v := 2) (pc2 := 77) op99_76 (by decide) rfl ?_
            refine rx_p (L2 := [some (.ref 0), some (.int a1), none]) (S2 := [.int ((m8.1 0 8) ||| 2), .ref 0]) (pc2 := 78) op99_77 rfl rfl ?_
            obtain ⟨m10, em10, gc16⟩ := rq_bv gc16
            refine rx_pf (m2 := m10) (pc2 := 81) op99_78 sp_0 rfl em10 rfl ?_
            cases gc16
            exact c16 _
          · have gc16 := (if_neg b5).symm.trans gc16
            cases gc16
            exact c16 _
        · have h := (if_neg b4).symm.trans h
          refine rx_ic (v := (-1)) (pc2 := 43) op99_42 (by decide) rfl ?_
          obtain ⟨rfl, rfl⟩ := rq_ret h
          exact ry_ri op99_43 ms_99 rfl
    · have h := (if_neg b2).symm.trans h
      refine rx_ic (v := (-1)) (pc2 := 11) op99_10 (by decide) rfl ?_
      obtain ⟨rfl, rfl⟩ := rq_ret h
      exact ry_ri op99_11 ms_99 rfl
/-! se_findDrops -/
theorem op102_0 : rn_op 102 0 = some (.aload_n 0, 1, 0, 0, 0) := by decide +kernel
theorem op102_1 : rn_op 102 1 = some (.iconst 1, 1, 0, 0, 0) := by decide +kernel
theorem op102_2 : rn_op 102 2 = some (.putfield 76, 3, 4, 10, 0) := by decide +kernel
theorem op102_5 : rn_op 102 5 = some (.aload_n 0, 1, 0, 0, 0) := by decide +kernel
theorem op102_6 : rn_op 102 6 = some (.sipush 448, 3, 0, 0, 0) := by decide +kernel
theorem op102_9 : rn_op 102 9 = some (.putfield 104, 3, 4, 11, 0) := by decide +kernel
theorem op102_12 : rn_op 102 12 = some (.aload_n 0, 1, 0, 0, 0) := by decide +kernel
theorem op102_13 : rn_op 102 13 = some (.invokevirtual 98, 3, 65, 1, 4) := by decide +kernel
theorem op102_16 : rn_op 102 16 = some (.aload_n 0, 1, 0, 0, 0) := by decide +kernel
theorem op102_17 : rn_op 102 17 = some (.aload_n 0, 1, 0, 0, 0) := by decide +kernel
theorem op102_18 : rn_op 102 18 = some (.getfield 104, 3, 4, 11, 0) := by decide +kernel
theorem op102_21 : rn_op 102 21 = some (.sipush 448, 3, 0, 0, 0) := by decide +kernel
theorem op102_24 : rn_op 102 24 = some (.if_icmp .ne 8, 3, 0, 0, 0) := by decide +kernel
theorem op102_27 : rn_op 102 27 = some (.bipush (-4), 2, 0, 0, 0) := by decide +kernel
theorem op102_29 : rn_op 102 29 = some (.goto 10, 3, 0, 0, 0) := by decide +kernel
theorem op102_32 : rn_op 102 32 = some (.aload_n 0, 1, 0, 0, 0) := by decide +kernel
theorem op102_33 : rn_op 102 33 = some (.getfield 104, 3, 4, 11, 0) := by decide +kernel
theorem op102_36 : rn_op 102 36 = some (.bipush 63, 2, 0, 0, 0) := by decide +kernel
theorem op102_38 : rn_op 102 38 = some (.iand, 1, 0, 0, 0) := by decide +kernel
theorem op102_39 : rn_op 102 39 = some (.putfield 107, 3, 4, 17, 0) := by decide +kernel
theorem op102_42 : rn_op 102 42 = some (.return_, 1, 0, 0, 0) := by decide +kernel
def se_findDrops (n : Nat)  (m : rn_Mem) : Option (rn_Mem) :=
  (some (rm_i m 51 10 1)).bind fun (m1 : rn_Mem) =>
  (some (rm_i m1 51 11 448)).bind fun (m2 : rn_Mem) =>
  (se_run n m2).bind fun m3 =>
  (show Option (Int32) from
    if (m3.1 51 11) = 448 then
      some ((-4))
    else
      some ((m3.1 51 11) &&& 63)).bind fun x7 =>
  (some (rm_i m3 51 17 x7)).bind fun (m8 : rn_Mem) =>
  some m8
set_option maxHeartbeats 4000000 in
set_option maxRecDepth 20000 in
theorem se_findDrops_ok (xs : List Int32) {d : Nat} (hd : 40 ≤ d) {n : Nat} {m mO : rn_Mem} (h : se_findDrops n  m = some mO) : rn_R xs d 102 0 (rn_ent 1 [.ref 51]) [] (rn_SH, m) none (rn_SH, mO) := by
  obtain ⟨d, rfl⟩ : ∃ e, d = e + 1 := ⟨d - 1, by omega⟩
  unfold se_findDrops at h
  show rn_R xs (d + 1) 102 0 [some (.ref 51)] [] (rn_SH, m) none (rn_SH, mO)
  refine rx_p (L2 := [some (.ref 51)]) (S2 := [.ref 51]) (pc2 := 1) op102_0 rfl rfl ?_
  refine rx_ic (v := 1) (pc2 := 2) op102_1 (by decide) rfl ?_
  obtain ⟨m1, em1, h⟩ := rq_bv h
  refine rx_pf (m2 := m1) (pc2 := 5) op102_2 sp_51 rfl em1 rfl ?_
  refine rx_p (L2 := [some (.ref 51)]) (S2 := [.ref 51]) (pc2 := 6) op102_5 rfl rfl ?_
  refine rx_sp (v := 448) (pc2 := 9) op102_6 (by decide) rfl ?_
  obtain ⟨m2, em2, h⟩ := rq_bv h
  refine rx_pf (m2 := m2) (pc2 := 12) op102_9 sp_51 rfl em2 rfl ?_
  refine rx_p (L2 := [some (.ref 51)]) (S2 := [.ref 51]) (pc2 := 13) op102_12 rfl rfl ?_
  obtain ⟨m3, f4, h⟩ := rq_bind h
  try dsimp only at h
  refine ry_iv (p := 51) (vs := []) (T := []) (pc2 := 16) op102_13 ms_65 (by decide) rfl rfl (Nat.le_of_ble_eq_true rfl) (Nat.le_of_ble_eq_true rfl) sp_51 (se_run_ok xs (by omega)  f4) rfl ?_
  show rn_R _ _ _ _ _ [] _ _ _
  refine rx_p (L2 := [some (.ref 51)]) (S2 := [.ref 51]) (pc2 := 17) op102_16 rfl rfl ?_
  refine rx_p (L2 := [some (.ref 51)]) (S2 := [.ref 51, .ref 51]) (pc2 := 18) op102_17 rfl rfl ?_
  refine rx_gf (v := .int (m3.1 51 11)) (pc2 := 21) op102_18 sp_51 rfl rfl rfl ?_
  refine rx_sp (v := 448) (pc2 := 24) op102_21 (by decide) rfl ?_
  obtain ⟨x7, gc9, h⟩ := rq_bind h
  try dsimp only at h
  have c9 : ∀ (o6 : Option Value), rn_R xs (d + 1) 102 39 [o6] [.int x7, .ref 51] (rn_SH, m3) none (rn_SH, mO) := by
    intro o6
    obtain ⟨m8, em8, h⟩ := rq_bv h
    refine rx_pf (m2 := m8) (pc2 := 42) op102_39 sp_51 rfl em8 rfl ?_
    obtain rfl := Option.some.inj h
    exact ry_rv op102_42 ms_102 rfl
  refine ry_ic_ne (tgt := 32) (pc2 := 27) op102_24 (by decide) (by decide) rfl (fun b5 => ?_) (fun b5 => ?_)
  · have gc9 := (if_pos b5).symm.trans gc9
    refine rx_bp (v := (-4)) (pc2 := 29) op102_27 (by decide) rfl ?_
    refine ry_go (tgt := 39) op102_29 (by decide) (by decide) ?_
    cases gc9
    exact c9 _
  · have gc9 := (if_neg b5).symm.trans gc9
    refine rx_p (L2 := [some (.ref 51)]) (S2 := [.ref 51, .ref 51]) (pc2 := 33) op102_32 rfl rfl ?_
    refine rx_gf (v := .int (m3.1 51 11)) (pc2 := 36) op102_33 sp_51 rfl rfl rfl ?_
    refine rx_bp (v := 63) (pc2 := 38) op102_36 (by decide) rfl ?_
    refine rx_p (L2 := [some (.ref 51)]) (S2 := [.int ((m3.1 51 11) &&& 63), .ref 51]) (pc2 := 39) op102_38 rfl rfl ?_
    cases gc9
    exact c9 _
/-! lt_drops -/
theorem op101_0 : rn_op 101 0 = some (.aload_n 0, 1, 0, 0, 0) := by decide +kernel
theorem op101_1 : rn_op 101 1 = some (.getfield 19, 3, 10, 1, 3) := by decide +kernel
theorem op101_4 : rn_op 101 4 = some (.getfield 93, 3, 6, 1, 3) := by decide +kernel
theorem op101_7 : rn_op 101 7 = some (.getfield 136, 3, 7, 0, 2) := by decide +kernel
theorem op101_10 : rn_op 101 10 = some (.ifCond .ne 6, 3, 0, 0, 0) := by decide +kernel
theorem op101_13 : rn_op 101 13 = some (.bipush (-2), 2, 0, 0, 0) := by decide +kernel
theorem op101_15 : rn_op 101 15 = some (.ireturn, 1, 0, 0, 0) := by decide +kernel
theorem op101_16 : rn_op 101 16 = some (.aload_n 0, 1, 0, 0, 0) := by decide +kernel
theorem op101_17 : rn_op 101 17 = some (.getfield 81, 3, 10, 8, 0) := by decide +kernel
theorem op101_20 : rn_op 101 20 = some (.iconst 4, 1, 0, 0, 0) := by decide +kernel
theorem op101_21 : rn_op 101 21 = some (.iand, 1, 0, 0, 0) := by decide +kernel
theorem op101_22 : rn_op 101 22 = some (.ifCond .ne 31, 3, 0, 0, 0) := by decide +kernel
theorem op101_25 : rn_op 101 25 = some (.aload_n 0, 1, 0, 0, 0) := by decide +kernel
theorem op101_26 : rn_op 101 26 = some (.getfield 32, 3, 10, 4, 3) := by decide +kernel
theorem op101_29 : rn_op 101 29 = some (.aload_n 0, 1, 0, 0, 0) := by decide +kernel
theorem op101_30 : rn_op 101 30 = some (.getfield 19, 3, 10, 1, 3) := by decide +kernel
theorem op101_33 : rn_op 101 33 = some (.invokevirtual 213, 3, 62, 2, 4) := by decide +kernel
theorem op101_36 : rn_op 101 36 = some (.aload_n 0, 1, 0, 0, 0) := by decide +kernel
theorem op101_37 : rn_op 101 37 = some (.getfield 32, 3, 10, 4, 3) := by decide +kernel
theorem op101_40 : rn_op 101 40 = some (.invokevirtual 223, 3, 102, 1, 4) := by decide +kernel
theorem op101_43 : rn_op 101 43 = some (.aload_n 0, 1, 0, 0, 0) := by decide +kernel
theorem op101_44 : rn_op 101 44 = some (.dup, 1, 0, 0, 0) := by decide +kernel
theorem op101_45 : rn_op 101 45 = some (.getfield 81, 3, 10, 8, 0) := by decide +kernel
theorem op101_48 : rn_op 101 48 = some (.iconst 4, 1, 0, 0, 0) := by decide +kernel
theorem op101_49 : rn_op 101 49 = some (.ior, 1, 0, 0, 0) := by decide +kernel
theorem op101_50 : rn_op 101 50 = some (.putfield 81, 3, 10, 8, 0) := by decide +kernel
theorem op101_53 : rn_op 101 53 = some (.aload_n 0, 1, 0, 0, 0) := by decide +kernel
theorem op101_54 : rn_op 101 54 = some (.getfield 32, 3, 10, 4, 3) := by decide +kernel
theorem op101_57 : rn_op 101 57 = some (.getfield 226, 3, 4, 17, 0) := by decide +kernel
theorem op101_60 : rn_op 101 60 = some (.ireturn, 1, 0, 0, 0) := by decide +kernel
def lt_drops (n : Nat)  (m : rn_Mem) : Option (Int32 × rn_Mem) :=
  if (m.1 5 0) = 0 then
    some ((-2), m)
  else
    if ((m.1 0 8) &&& 4) = 0 then
      (se_take n 3 m).bind fun m3 =>
      (se_findDrops n m3).bind fun m5 =>
      (some (rm_i m5 0 8 ((m5.1 0 8) ||| 4))).bind fun (m7 : rn_Mem) =>
      some (m7.1 51 17, m7)
    else
      some (m.1 51 17, m)
set_option maxHeartbeats 4000000 in
set_option maxRecDepth 20000 in
theorem lt_drops_ok (xs : List Int32) {d : Nat} (hd : 41 ≤ d) {n : Nat} {m mO : rn_Mem} {rO : Int32} (h : lt_drops n  m = some (rO, mO)) : rn_R xs d 101 0 (rn_ent 1 [.ref 0]) [] (rn_SH, m) (some (.int rO)) (rn_SH, mO) := by
  obtain ⟨d, rfl⟩ : ∃ e, d = e + 1 := ⟨d - 1, by omega⟩
  unfold lt_drops at h
  show rn_R xs (d + 1) 101 0 [some (.ref 0)] [] (rn_SH, m) (some (.int rO)) (rn_SH, mO)
  refine rx_p (L2 := [some (.ref 0)]) (S2 := [.ref 0]) (pc2 := 1) op101_0 rfl rfl ?_
  refine rx_gf (v := .ref 3) (pc2 := 4) op101_1 sp_0 rfl rfl rfl ?_
  refine rx_gf (v := .ref 5) (pc2 := 7) op101_4 sp_3 rfl rfl rfl ?_
  refine rx_gf (v := .int (m.1 5 0)) (pc2 := 10) op101_7 sp_5 rfl rfl rfl ?_
  refine ry_if_ne (tgt := 16) (pc2 := 13) op101_10 (by decide) (by decide) rfl (fun b1 => ?_) (fun b1 => ?_)
  · have h := (if_pos b1).symm.trans h
    refine rx_bp (v := (-2)) (pc2 := 15) op101_13 (by decide) rfl ?_
    obtain ⟨rfl, rfl⟩ := rq_ret h
    exact ry_ri op101_15 ms_101 rfl
  · have h := (if_neg b1).symm.trans h
    refine rx_p (L2 := [some (.ref 0)]) (S2 := [.ref 0]) (pc2 := 17) op101_16 rfl rfl ?_
    refine rx_gf (v := .int (m.1 0 8)) (pc2 := 20) op101_17 sp_0 rfl rfl rfl ?_
    refine rx_ic (v := 4) (pc2 := 21) op101_20 (by decide) rfl ?_
    refine rx_p (L2 := [some (.ref 0)]) (S2 := [.int ((m.1 0 8) &&& 4)]) (pc2 := 22) op101_21 rfl rfl ?_
    refine ry_if_ne (tgt := 53) (pc2 := 25) op101_22 (by decide) (by decide) rfl (fun b2 => ?_) (fun b2 => ?_)
    · have h := (if_pos b2).symm.trans h
      refine rx_p (L2 := [some (.ref 0)]) (S2 := [.ref 0]) (pc2 := 26) op101_25 rfl rfl ?_
      refine rx_gf (v := .ref 51) (pc2 := 29) op101_26 sp_0 rfl rfl rfl ?_
      refine rx_p (L2 := [some (.ref 0)]) (S2 := [.ref 0, .ref 51]) (pc2 := 30) op101_29 rfl rfl ?_
      refine rx_gf (v := .ref 3) (pc2 := 33) op101_30 sp_0 rfl rfl rfl ?_
      obtain ⟨m3, f4, h⟩ := rq_bind h
      try dsimp only at h
      refine ry_iv (p := 51) (vs := [.ref 3]) (T := []) (pc2 := 36) op101_33 ms_62 (by decide) rfl rfl (Nat.le_of_ble_eq_true rfl) (Nat.le_of_ble_eq_true rfl) sp_51 (se_take_ok xs (by omega) sa_3 f4) rfl ?_
      show rn_R _ _ _ _ _ [] _ _ _
      refine rx_p (L2 := [some (.ref 0)]) (S2 := [.ref 0]) (pc2 := 37) op101_36 rfl rfl ?_
      refine rx_gf (v := .ref 51) (pc2 := 40) op101_37 sp_0 rfl rfl rfl ?_
      obtain ⟨m5, f6, h⟩ := rq_bind h
      try dsimp only at h
      refine ry_iv (p := 51) (vs := []) (T := []) (pc2 := 43) op101_40 ms_102 (by decide) rfl rfl (Nat.le_of_ble_eq_true rfl) (Nat.le_of_ble_eq_true rfl) sp_51 (se_findDrops_ok xs (by omega)  f6) rfl ?_
      show rn_R _ _ _ _ _ [] _ _ _
      refine rx_p (L2 := [some (.ref 0)]) (S2 := [.ref 0]) (pc2 := 44) op101_43 rfl rfl ?_
      refine rx_p (L2 := [some (.ref 0)]) (S2 := [.ref 0, .ref 0]) (pc2 := 45) op101_44 rfl rfl ?_
      refine rx_gf (v := .int (m5.1 0 8)) (pc2 := 48) op101_45 sp_0 rfl rfl rfl ?_
      refine rx_ic (v := 4) (pc2 := 49) op101_48 (by decide) rfl ?_
      refine rx_p (L2 := [some (.ref 0)]) (S2 := [.int ((m5.1 0 8) ||| 4), .ref 0]) (pc2 := 50) op101_49 rfl rfl ?_
      obtain ⟨m7, em7, h⟩ := rq_bv h
      refine rx_pf (m2 := m7) (pc2 := 53) op101_50 sp_0 rfl em7 rfl ?_
      refine rx_p (L2 := [some (.ref 0)]) (S2 := [.ref 0]) (pc2 := 54) op101_53 rfl rfl ?_
      refine rx_gf (v := .ref 51) (pc2 := 57) op101_54 sp_0 rfl rfl rfl ?_
      refine rx_gf (v := .int (m7.1 51 17)) (pc2 := 60) op101_57 sp_51 rfl rfl rfl ?_
      obtain ⟨rfl, rfl⟩ := rq_ret h
      exact ry_ri op101_60 ms_101 rfl
    · have h := (if_neg b2).symm.trans h
      refine rx_p (L2 := [some (.ref 0)]) (S2 := [.ref 0]) (pc2 := 54) op101_53 rfl rfl ?_
      refine rx_gf (v := .ref 51) (pc2 := 57) op101_54 sp_0 rfl rfl rfl ?_
      refine rx_gf (v := .int (m.1 51 17)) (pc2 := 60) op101_57 sp_51 rfl rfl rfl ?_
      obtain ⟨rfl, rfl⟩ := rq_ret h
      exact ry_ri op101_60 ms_101 rfl
/-! ta_turn -/
theorem op105_0 : rn_op 105 0 = some (.iload_n 2, 1, 0, 0, 0) := by decide +kernel
theorem op105_1 : rn_op 105 1 = some (.bipush 12, 2, 0, 0, 0) := by decide +kernel
theorem op105_3 : rn_op 105 3 = some (.imul, 1, 0, 0, 0) := by decide +kernel
theorem op105_4 : rn_op 105 4 = some (.istore_n 3, 1, 0, 0, 0) := by decide +kernel
theorem op105_5 : rn_op 105 5 = some (.iload_n 3, 1, 0, 0, 0) := by decide +kernel
theorem op105_6 : rn_op 105 6 = some (.aload_n 0, 1, 0, 0, 0) := by decide +kernel
theorem op105_7 : rn_op 105 7 = some (.getfield 15, 3, 7, 2, 3) := by decide +kernel
theorem op105_10 : rn_op 105 10 = some (.iload_n 2, 1, 0, 0, 0) := by decide +kernel
theorem op105_11 : rn_op 105 11 = some (.iaload, 1, 0, 0, 0) := by decide +kernel
theorem op105_12 : rn_op 105 12 = some (.iconst 1, 1, 0, 0, 0) := by decide +kernel
theorem op105_13 : rn_op 105 13 = some (.isub, 1, 0, 0, 0) := by decide +kernel
theorem op105_14 : rn_op 105 14 = some (.iload_n 1, 1, 0, 0, 0) := by decide +kernel
theorem op105_15 : rn_op 105 15 = some (.imul, 1, 0, 0, 0) := by decide +kernel
theorem op105_16 : rn_op 105 16 = some (.iadd, 1, 0, 0, 0) := by decide +kernel
theorem op105_17 : rn_op 105 17 = some (.istore 4, 2, 0, 0, 0) := by decide +kernel
theorem op105_19 : rn_op 105 19 = some (.iconst 0, 1, 0, 0, 0) := by decide +kernel
theorem op105_20 : rn_op 105 20 = some (.istore 5, 2, 0, 0, 0) := by decide +kernel
theorem op105_22 : rn_op 105 22 = some (.iload 5, 2, 0, 0, 0) := by decide +kernel
theorem op105_24 : rn_op 105 24 = some (.iconst 4, 1, 0, 0, 0) := by decide +kernel
theorem op105_25 : rn_op 105 25 = some (.if_icmp .ge 82, 3, 0, 0, 0) := by decide +kernel
theorem op105_28 : rn_op 105 28 = some (.iload_n 3, 1, 0, 0, 0) := by decide +kernel
theorem op105_29 : rn_op 105 29 = some (.iload 4, 2, 0, 0, 0) := by decide +kernel
theorem op105_31 : rn_op 105 31 = some (.if_icmp .ge 76, 3, 0, 0, 0) := by decide +kernel
theorem op105_34 : rn_op 105 34 = some (.iconst 0, 1, 0, 0, 0) := by decide +kernel
theorem op105_35 : rn_op 105 35 = some (.istore 6, 2, 0, 0, 0) := by decide +kernel
theorem op105_37 : rn_op 105 37 = some (.iload 6, 2, 0, 0, 0) := by decide +kernel
theorem op105_39 : rn_op 105 39 = some (.iload_n 1, 1, 0, 0, 0) := by decide +kernel
theorem op105_40 : rn_op 105 40 = some (.if_icmp .ge 51, 3, 0, 0, 0) := by decide +kernel
theorem op105_43 : rn_op 105 43 = some (.aload_n 0, 1, 0, 0, 0) := by decide +kernel
theorem op105_44 : rn_op 105 44 = some (.getfield 18, 3, 7, 3, 3) := by decide +kernel
theorem op105_47 : rn_op 105 47 = some (.iload_n 3, 1, 0, 0, 0) := by decide +kernel
theorem op105_48 : rn_op 105 48 = some (.iload 6, 2, 0, 0, 0) := by decide +kernel
theorem op105_50 : rn_op 105 50 = some (.iadd, 1, 0, 0, 0) := by decide +kernel
theorem op105_51 : rn_op 105 51 = some (.iaload, 1, 0, 0, 0) := by decide +kernel
theorem op105_52 : rn_op 105 52 = some (.istore 7, 2, 0, 0, 0) := by decide +kernel
theorem op105_54 : rn_op 105 54 = some (.aload_n 0, 1, 0, 0, 0) := by decide +kernel
theorem op105_55 : rn_op 105 55 = some (.getfield 18, 3, 7, 3, 3) := by decide +kernel
theorem op105_58 : rn_op 105 58 = some (.iload_n 3, 1, 0, 0, 0) := by decide +kernel
theorem op105_59 : rn_op 105 59 = some (.iload 6, 2, 0, 0, 0) := by decide +kernel
theorem op105_61 : rn_op 105 61 = some (.iadd, 1, 0, 0, 0) := by decide +kernel
theorem op105_62 : rn_op 105 62 = some (.aload_n 0, 1, 0, 0, 0) := by decide +kernel
theorem op105_63 : rn_op 105 63 = some (.getfield 18, 3, 7, 3, 3) := by decide +kernel
theorem op105_66 : rn_op 105 66 = some (.iload 4, 2, 0, 0, 0) := by decide +kernel
theorem op105_68 : rn_op 105 68 = some (.iload 6, 2, 0, 0, 0) := by decide +kernel
theorem op105_70 : rn_op 105 70 = some (.iadd, 1, 0, 0, 0) := by decide +kernel
theorem op105_71 : rn_op 105 71 = some (.iaload, 1, 0, 0, 0) := by decide +kernel
theorem op105_72 : rn_op 105 72 = some (.iastore, 1, 0, 0, 0) := by decide +kernel
theorem op105_73 : rn_op 105 73 = some (.aload_n 0, 1, 0, 0, 0) := by decide +kernel
theorem op105_74 : rn_op 105 74 = some (.getfield 18, 3, 7, 3, 3) := by decide +kernel
theorem op105_77 : rn_op 105 77 = some (.iload 4, 2, 0, 0, 0) := by decide +kernel
theorem op105_79 : rn_op 105 79 = some (.iload 6, 2, 0, 0, 0) := by decide +kernel
theorem op105_81 : rn_op 105 81 = some (.iadd, 1, 0, 0, 0) := by decide +kernel
theorem op105_82 : rn_op 105 82 = some (.iload 7, 2, 0, 0, 0) := by decide +kernel
theorem op105_84 : rn_op 105 84 = some (.iastore, 1, 0, 0, 0) := by decide +kernel
theorem op105_85 : rn_op 105 85 = some (.iinc 6 1, 3, 0, 0, 0) := by decide +kernel
theorem op105_88 : rn_op 105 88 = some (.goto (-51), 3, 0, 0, 0) := by decide +kernel
theorem op105_91 : rn_op 105 91 = some (.iload_n 3, 1, 0, 0, 0) := by decide +kernel
theorem op105_92 : rn_op 105 92 = some (.iload_n 1, 1, 0, 0, 0) := by decide +kernel
theorem op105_93 : rn_op 105 93 = some (.iadd, 1, 0, 0, 0) := by decide +kernel
theorem op105_94 : rn_op 105 94 = some (.istore_n 3, 1, 0, 0, 0) := by decide +kernel
theorem op105_95 : rn_op 105 95 = some (.iload 4, 2, 0, 0, 0) := by decide +kernel
theorem op105_97 : rn_op 105 97 = some (.iload_n 1, 1, 0, 0, 0) := by decide +kernel
theorem op105_98 : rn_op 105 98 = some (.isub, 1, 0, 0, 0) := by decide +kernel
theorem op105_99 : rn_op 105 99 = some (.istore 4, 2, 0, 0, 0) := by decide +kernel
theorem op105_101 : rn_op 105 101 = some (.iinc 5 1, 3, 0, 0, 0) := by decide +kernel
theorem op105_104 : rn_op 105 104 = some (.goto (-82), 3, 0, 0, 0) := by decide +kernel
theorem op105_107 : rn_op 105 107 = some (.return_, 1, 0, 0, 0) := by decide +kernel
def ta_turn_l37 (q0 : Nat) (a1 : Int32) (a3 : Int32) (a4 : Int32) (a5 : Int32) : Nat → Int32 → rn_Mem → Option (rn_Mem)
  | 0, _, _ => none
  | n + 1, a6, m =>
    if a6 < a1 then
      if rn_in (a3 + a6) 48 = true then
        (some (m.1 (q0 + 3) (a3 + a6).toNatClampNeg)).bind fun (x8 : Int32) =>
        if rn_in (a4 + a6) 48 = true then
          if rn_in (a3 + a6) 48 = true then
            (some (rm_i m (q0 + 3) (a3 + a6).toNatClampNeg (m.1 (q0 + 3) (a4 + a6).toNatClampNeg))).bind fun (m10 : rn_Mem) =>
            if rn_in (a4 + a6) 48 = true then
              (some (rm_i m10 (q0 + 3) (a4 + a6).toNatClampNeg x8)).bind fun (m12 : rn_Mem) =>
              (some (a6 + 1)).bind fun (x14 : Int32) =>
              ta_turn_l37 q0 a1 a3 a4 a5 n x14 m12
            else none
          else none
        else none
      else none
    else
      some m
def ta_turn_l22 (q0 : Nat) (a1 : Int32) : Nat → Int32 → Int32 → Int32 → rn_Mem → Option (rn_Mem)
  | 0, _, _, _, _ => none
  | n + 1, a3, a4, a5, m =>
    if a5 < 4 then
      if a3 < a4 then
        (ta_turn_l37 q0 a1 a3 a4 a5 n 0 m).bind fun m15 =>
        (some (a3 + a1)).bind fun (x20 : Int32) =>
        (some (a4 - a1)).bind fun (x21 : Int32) =>
        (some (a5 + 1)).bind fun (x22 : Int32) =>
        ta_turn_l22 q0 a1 n x20 x21 x22 m15
      else
        some m
    else
      some m
def ta_turn (n : Nat) (q0 : Nat) (a1 : Int32) (a2 : Int32) (m : rn_Mem) : Option (rn_Mem) :=
  (some (a2 * 12)).bind fun (x1 : Int32) =>
  if rn_in a2 4 = true then
    (some (x1 + (((m.1 (q0 + 2) a2.toNatClampNeg) - 1) * a1))).bind fun (x3 : Int32) =>
    (ta_turn_l22 q0 a1 n x1 x3 0 m).bind fun m24 =>
    some m24
  else none
set_option maxHeartbeats 4000000 in
set_option maxRecDepth 20000 in
theorem ta_turn_l37_ok (xs : List Int32) {d : Nat} {q0 : Nat} {a1 : Int32} {a3 : Int32} {a4 : Int32} {a5 : Int32} {r : Option Value} {τ : rn_H} {out : rn_Mem} (hr : ∀ (mO : rn_Mem), out = mO → ∀ (o2 o6 o7 : Option Value), rn_R xs d 105 91 [some (.ref q0), some (.int a1), o2, some (.int a3), some (.int a4), some (.int a5), o6, o7] [] (rn_SH, mO) r τ) : ∀ (n : Nat) (a6 : Int32) (o2 o7 : Option Value) (m : rn_Mem), sA_Table q0 → ta_turn_l37 q0 a1 a3 a4 a5 n a6 m = some out → rn_R xs d 105 37 [some (.ref q0), some (.int a1), o2, some (.int a3), some (.int a4), some (.int a5), some (.int a6), o7] [] (rn_SH, m) r τ := by
  intro n
  induction n with
  | zero =>
    intro _ _ _ _ _ h
    cases h
  | succ n ih =>
    intro a6 o2 o7 m hq0 h
    unfold ta_turn_l37 at h
    try dsimp only at h
    refine rx_p (L2 := [some (.ref q0), some (.int a1), o2, some (.int a3), some (.int a4), some (.int a5), some (.int a6), o7]) (S2 := [.int a6]) (pc2 := 39) op105_37 rfl rfl ?_
    refine rx_p (L2 := [some (.ref q0), some (.int a1), o2, some (.int a3), some (.int a4), some (.int a5), some (.int a6), o7]) (S2 := [.int a1, .int a6]) (pc2 := 40) op105_39 rfl rfl ?_
    refine ry_ic_ge (tgt := 91) (pc2 := 43) op105_40 (by decide) (by decide) rfl (fun b6 => ?_) (fun b6 => ?_)
    · have h := (if_pos b6).symm.trans h
      refine rx_p (L2 := [some (.ref q0), some (.int a1), o2, some (.int a3), some (.int a4), some (.int a5), some (.int a6), o7]) (S2 := [.ref q0]) (pc2 := 44) op105_43 rfl rfl ?_
      refine rx_gf (v := .ref (q0 + 3)) (pc2 := 47) op105_44 (hq0.1) rfl rfl rfl ?_
      refine rx_p (L2 := [some (.ref q0), some (.int a1), o2, some (.int a3), some (.int a4), some (.int a5), some (.int a6), o7]) (S2 := [.int a3, .ref (q0 + 3)]) (pc2 := 48) op105_47 rfl rfl ?_
      refine rx_p (L2 := [some (.ref q0), some (.int a1), o2, some (.int a3), some (.int a4), some (.int a5), some (.int a6), o7]) (S2 := [.int a6, .int a3, .ref (q0 + 3)]) (pc2 := 50) op105_48 rfl rfl ?_
      refine rx_p (L2 := [some (.ref q0), some (.int a1), o2, some (.int a3), some (.int a4), some (.int a5), some (.int a6), o7]) (S2 := [.int (a3 + a6), .ref (q0 + 3)]) (pc2 := 51) op105_50 rfl rfl ?_
      obtain ⟨k7, h⟩ := rq_chk h
      refine rx_ia (pc2 := 52) op105_51 (rn_shlt (hq0.2.2.2)) (hq0.2.2.2) k7 rfl rfl ?_
      obtain ⟨x8, ex8, h⟩ := rq_bv h
      refine rx_s (v := x8) (L2 := [some (.ref q0), some (.int a1), o2, some (.int a3), some (.int a4), some (.int a5), some (.int a6), some (.int x8)]) (pc2 := 54) op105_52 ex8 rfl rfl ?_
      refine rx_p (L2 := [some (.ref q0), some (.int a1), o2, some (.int a3), some (.int a4), some (.int a5), some (.int a6), some (.int x8)]) (S2 := [.ref q0]) (pc2 := 55) op105_54 rfl rfl ?_
      refine rx_gf (v := .ref (q0 + 3)) (pc2 := 58) op105_55 (hq0.1) rfl rfl rfl ?_
      refine rx_p (L2 := [some (.ref q0), some (.int a1), o2, some (.int a3), some (.int a4), some (.int a5), some (.int a6), some (.int x8)]) (S2 := [.int a3, .ref (q0 + 3)]) (pc2 := 59) op105_58 rfl rfl ?_
      refine rx_p (L2 := [some (.ref q0), some (.int a1), o2, some (.int a3), some (.int a4), some (.int a5), some (.int a6), some (.int x8)]) (S2 := [.int a6, .int a3, .ref (q0 + 3)]) (pc2 := 61) op105_59 rfl rfl ?_
      refine rx_p (L2 := [some (.ref q0), some (.int a1), o2, some (.int a3), some (.int a4), some (.int a5), some (.int a6), some (.int x8)]) (S2 := [.int (a3 + a6), .ref (q0 + 3)]) (pc2 := 62) op105_61 rfl rfl ?_
      refine rx_p (L2 := [some (.ref q0), some (.int a1), o2, some (.int a3), some (.int a4), some (.int a5), some (.int a6), some (.int x8)]) (S2 := [.ref q0, .int (a3 + a6), .ref (q0 + 3)]) (pc2 := 63) op105_62 rfl rfl ?_
      refine rx_gf (v := .ref (q0 + 3)) (pc2 := 66) op105_63 (hq0.1) rfl rfl rfl ?_
      refine rx_p (L2 := [some (.ref q0), some (.int a1), o2, some (.int a3), some (.int a4), some (.int a5), some (.int a6), some (.int x8)]) (S2 := [.int a4, .ref (q0 + 3), .int (a3 + a6), .ref (q0 + 3)]) (pc2 := 68) op105_66 rfl rfl ?_
      refine rx_p (L2 := [some (.ref q0), some (.int a1), o2, some (.int a3), some (.int a4), some (.int a5), some (.int a6), some (.int x8)]) (S2 := [.int a6, .int a4, .ref (q0 + 3), .int (a3 + a6), .ref (q0 + 3)]) (pc2 := 70) op105_68 rfl rfl ?_
      refine rx_p (L2 := [some (.ref q0), some (.int a1), o2, some (.int a3), some (.int a4), some (.int a5), some (.int a6), some (.int x8)]) (S2 := [.int (a4 + a6), .ref (q0 + 3), .int (a3 + a6), .ref (q0 + 3)]) (pc2 := 71) op105_70 rfl rfl ?_
      obtain ⟨k9, h⟩ := rq_chk h
      refine rx_ia (pc2 := 72) op105_71 (rn_shlt (hq0.2.2.2)) (hq0.2.2.2) k9 rfl rfl ?_
      obtain ⟨k11, h⟩ := rq_chk h
      obtain ⟨m10, em10, h⟩ := rq_bv h
      refine rx_is (m2 := m10) (pc2 := 73) op105_72 (hq0.2.2.2) k11 rfl em10 rfl ?_
      refine rx_p (L2 := [some (.ref q0), some (.int a1), o2, some (.int a3), some (.int a4), some (.int a5), some (.int a6), some (.int x8)]) (S2 := [.ref q0]) (pc2 := 74) op105_73 rfl rfl ?_
      refine rx_gf (v := .ref (q0 + 3)) (pc2 := 77) op105_74 (hq0.1) rfl rfl rfl ?_
      refine rx_p (L2 := [some (.ref q0), some (.int a1), o2, some (.int a3), some (.int a4), some (.int a5), some (.int a6), some (.int x8)]) (S2 := [.int a4, .ref (q0 + 3)]) (pc2 := 79) op105_77 rfl rfl ?_
      refine rx_p (L2 := [some (.ref q0), some (.int a1), o2, some (.int a3), some (.int a4), some (.int a5), some (.int a6), some (.int x8)]) (S2 := [.int a6, .int a4, .ref (q0 + 3)]) (pc2 := 81) op105_79 rfl rfl ?_
      refine rx_p (L2 := [some (.ref q0), some (.int a1), o2, some (.int a3), some (.int a4), some (.int a5), some (.int a6), some (.int x8)]) (S2 := [.int (a4 + a6), .ref (q0 + 3)]) (pc2 := 82) op105_81 rfl rfl ?_
      refine rx_p (L2 := [some (.ref q0), some (.int a1), o2, some (.int a3), some (.int a4), some (.int a5), some (.int a6), some (.int x8)]) (S2 := [.int x8, .int (a4 + a6), .ref (q0 + 3)]) (pc2 := 84) op105_82 rfl rfl ?_
      obtain ⟨k13, h⟩ := rq_chk h
      obtain ⟨m12, em12, h⟩ := rq_bv h
      refine rx_is (m2 := m12) (pc2 := 85) op105_84 (hq0.2.2.2) k13 rfl em12 rfl ?_
      obtain ⟨x14, ex14, h⟩ := rq_bv h
      refine rx_inc (w := 1) (v := x14) (L2 := [some (.ref q0), some (.int a1), o2, some (.int a3), some (.int a4), some (.int a5), some (.int x14), some (.int x8)]) (pc2 := 88) op105_85 rfl (by decide) ex14 rfl rfl ?_
      refine ry_go (tgt := 37) op105_88 (by decide) (by decide) ?_
      exact ih _ _ _ _ hq0 h
    · have h := (if_neg b6).symm.trans h
      cases h
      exact hr _ rfl _ _ _
set_option maxHeartbeats 4000000 in
set_option maxRecDepth 20000 in
theorem ta_turn_l22_ok (xs : List Int32) {d : Nat} {q0 : Nat} {a1 : Int32} {r : Option Value} {τ : rn_H} {out : rn_Mem} (hr : ∀ (mO : rn_Mem), out = mO → ∀ (o0 o1 o2 o3 o4 o5 o6 o7 : Option Value), rn_R xs d 105 107 [o0, o1, o2, o3, o4, o5, o6, o7] [] (rn_SH, mO) r τ) : ∀ (n : Nat) (a3 : Int32) (a4 : Int32) (a5 : Int32) (o2 o6 o7 : Option Value) (m : rn_Mem), sA_Table q0 → ta_turn_l22 q0 a1 n a3 a4 a5 m = some out → rn_R xs d 105 22 [some (.ref q0), some (.int a1), o2, some (.int a3), some (.int a4), some (.int a5), o6, o7] [] (rn_SH, m) r τ := by
  intro n
  induction n with
  | zero =>
    intro _ _ _ _ _ _ _ _ h
    cases h
  | succ n ih =>
    intro a3 a4 a5 o2 o6 o7 m hq0 h
    unfold ta_turn_l22 at h
    try dsimp only at h
    refine rx_p (L2 := [some (.ref q0), some (.int a1), o2, some (.int a3), some (.int a4), some (.int a5), o6, o7]) (S2 := [.int a5]) (pc2 := 24) op105_22 rfl rfl ?_
    refine rx_ic (v := 4) (pc2 := 25) op105_24 (by decide) rfl ?_
    refine ry_ic_ge (tgt := 107) (pc2 := 28) op105_25 (by decide) (by decide) rfl (fun b4 => ?_) (fun b4 => ?_)
    · have h := (if_pos b4).symm.trans h
      refine rx_p (L2 := [some (.ref q0), some (.int a1), o2, some (.int a3), some (.int a4), some (.int a5), o6, o7]) (S2 := [.int a3]) (pc2 := 29) op105_28 rfl rfl ?_
      refine rx_p (L2 := [some (.ref q0), some (.int a1), o2, some (.int a3), some (.int a4), some (.int a5), o6, o7]) (S2 := [.int a4, .int a3]) (pc2 := 31) op105_29 rfl rfl ?_
      refine ry_ic_ge (tgt := 107) (pc2 := 34) op105_31 (by decide) (by decide) rfl (fun b5 => ?_) (fun b5 => ?_)
      · have h := (if_pos b5).symm.trans h
        refine rx_ic (v := 0) (pc2 := 35) op105_34 (by decide) rfl ?_
        refine rx_s (L2 := [some (.ref q0), some (.int a1), o2, some (.int a3), some (.int a4), some (.int a5), some (.int 0), o7]) (pc2 := 37) op105_35 rfl rfl rfl ?_
        obtain ⟨m15, f23, h⟩ := rq_bind h
        refine ta_turn_l37_ok xs (fun m0 eq => ?_) _ _ _ _ _ hq0 f23
        subst eq
        try dsimp only at h
        intro o16 o17 o18
        refine rx_p (L2 := [some (.ref q0), some (.int a1), o16, some (.int a3), some (.int a4), some (.int a5), o17, o18]) (S2 := [.int a3]) (pc2 := 92) op105_91 rfl rfl ?_
        refine rx_p (L2 := [some (.ref q0), some (.int a1), o16, some (.int a3), some (.int a4), some (.int a5), o17, o18]) (S2 := [.int a1, .int a3]) (pc2 := 93) op105_92 rfl rfl ?_
        refine rx_p (L2 := [some (.ref q0), some (.int a1), o16, some (.int a3), some (.int a4), some (.int a5), o17, o18]) (S2 := [.int (a3 + a1)]) (pc2 := 94) op105_93 rfl rfl ?_
        obtain ⟨x20, ex20, h⟩ := rq_bv h
        refine rx_sd (v := x20) (j := 2) (pc2 := 95) op105_94 rfl ex20 (Nat.le_of_ble_eq_true rfl) rfl (fun o19 => ?_)
        show rn_R _ _ _ _ [some (.ref q0), some (.int a1), o19, some (.int x20), some (.int a4), some (.int a5), o17, o18] _ _ _ _
        refine rx_p (L2 := [some (.ref q0), some (.int a1), o19, some (.int x20), some (.int a4), some (.int a5), o17, o18]) (S2 := [.int a4]) (pc2 := 97) op105_95 rfl rfl ?_
        refine rx_p (L2 := [some (.ref q0), some (.int a1), o19, some (.int x20), some (.int a4), some (.int a5), o17, o18]) (S2 := [.int a1, .int a4]) (pc2 := 98) op105_97 rfl rfl ?_
        refine rx_p (L2 := [some (.ref q0), some (.int a1), o19, some (.int x20), some (.int a4), some (.int a5), o17, o18]) (S2 := [.int (a4 - a1)]) (pc2 := 99) op105_98 rfl rfl ?_
        obtain ⟨x21, ex21, h⟩ := rq_bv h
        refine rx_s (v := x21) (L2 := [some (.ref q0), some (.int a1), o19, some (.int x20), some (.int x21), some (.int a5), o17, o18]) (pc2 := 101) op105_99 ex21 rfl rfl ?_
        obtain ⟨x22, ex22, h⟩ := rq_bv h
        refine rx_inc (w := 1) (v := x22) (L2 := [some (.ref q0), some (.int a1), o19, some (.int x20), some (.int x21), some (.int x22), o17, o18]) (pc2 := 104) op105_101 rfl (by decide) ex22 rfl rfl ?_
        refine ry_go (tgt := 22) op105_104 (by decide) (by decide) ?_
        exact ih _ _ _ _ _ _ _ hq0 h
      · have h := (if_neg b5).symm.trans h
        cases h
        exact hr _ rfl _ _ _ _ _ _ _ _
    · have h := (if_neg b4).symm.trans h
      cases h
      exact hr _ rfl _ _ _ _ _ _ _ _
set_option maxHeartbeats 4000000 in
set_option maxRecDepth 20000 in
theorem ta_turn_ok (xs : List Int32) {d : Nat} (hd : 0 ≤ d) {n : Nat} {q0 : Nat} {a1 : Int32} {a2 : Int32} {m mO : rn_Mem} (hq0 : sA_Table q0) (h : ta_turn n q0 a1 a2 m = some mO) : rn_R xs d 105 0 (rn_ent 8 [.ref q0, .int a1, .int a2]) [] (rn_SH, m) none (rn_SH, mO) := by
  unfold ta_turn at h
  show rn_R xs d 105 0 [some (.ref q0), some (.int a1), some (.int a2), none, none, none, none, none] [] (rn_SH, m) none (rn_SH, mO)
  refine rx_p (L2 := [some (.ref q0), some (.int a1), some (.int a2), none, none, none, none, none]) (S2 := [.int a2]) (pc2 := 1) op105_0 rfl rfl ?_
  refine rx_bp (v := 12) (pc2 := 3) op105_1 (by decide) rfl ?_
  refine rx_p (L2 := [some (.ref q0), some (.int a1), some (.int a2), none, none, none, none, none]) (S2 := [.int (a2 * 12)]) (pc2 := 4) op105_3 rfl rfl ?_
  obtain ⟨x1, ex1, h⟩ := rq_bv h
  refine rx_s (v := x1) (L2 := [some (.ref q0), some (.int a1), some (.int a2), some (.int x1), none, none, none, none]) (pc2 := 5) op105_4 ex1 rfl rfl ?_
  refine rx_p (L2 := [some (.ref q0), some (.int a1), some (.int a2), some (.int x1), none, none, none, none]) (S2 := [.int x1]) (pc2 := 6) op105_5 rfl rfl ?_
  refine rx_p (L2 := [some (.ref q0), some (.int a1), some (.int a2), some (.int x1), none, none, none, none]) (S2 := [.ref q0, .int x1]) (pc2 := 7) op105_6 rfl rfl ?_
  refine rx_gf (v := .ref (q0 + 2)) (pc2 := 10) op105_7 (hq0.1) rfl rfl rfl ?_
  refine rx_p (L2 := [some (.ref q0), some (.int a1), some (.int a2), some (.int x1), none, none, none, none]) (S2 := [.int a2, .ref (q0 + 2), .int x1]) (pc2 := 11) op105_10 rfl rfl ?_
  obtain ⟨k2, h⟩ := rq_chk h
  refine rx_ia (pc2 := 12) op105_11 (rn_shlt (hq0.2.2.1)) (hq0.2.2.1) k2 rfl rfl ?_
  refine rx_ic (v := 1) (pc2 := 13) op105_12 (by decide) rfl ?_
  refine rx_p (L2 := [some (.ref q0), some (.int a1), some (.int a2), some (.int x1), none, none, none, none]) (S2 := [.int ((m.1 (q0 + 2) a2.toNatClampNeg) - 1), .int x1]) (pc2 := 14) op105_13 rfl rfl ?_
  refine rx_p (L2 := [some (.ref q0), some (.int a1), some (.int a2), some (.int x1), none, none, none, none]) (S2 := [.int a1, .int ((m.1 (q0 + 2) a2.toNatClampNeg) - 1), .int x1]) (pc2 := 15) op105_14 rfl rfl ?_
  refine rx_p (L2 := [some (.ref q0), some (.int a1), some (.int a2), some (.int x1), none, none, none, none]) (S2 := [.int (((m.1 (q0 + 2) a2.toNatClampNeg) - 1) * a1), .int x1]) (pc2 := 16) op105_15 rfl rfl ?_
  refine rx_p (L2 := [some (.ref q0), some (.int a1), some (.int a2), some (.int x1), none, none, none, none]) (S2 := [.int (x1 + (((m.1 (q0 + 2) a2.toNatClampNeg) - 1) * a1))]) (pc2 := 17) op105_16 rfl rfl ?_
  obtain ⟨x3, ex3, h⟩ := rq_bv h
  refine rx_s (v := x3) (L2 := [some (.ref q0), some (.int a1), some (.int a2), some (.int x1), some (.int x3), none, none, none]) (pc2 := 19) op105_17 ex3 rfl rfl ?_
  refine rx_ic (v := 0) (pc2 := 20) op105_19 (by decide) rfl ?_
  refine rx_s (L2 := [some (.ref q0), some (.int a1), some (.int a2), some (.int x1), some (.int x3), some (.int 0), none, none]) (pc2 := 22) op105_20 rfl rfl rfl ?_
  obtain ⟨m24, f33, h⟩ := rq_bind h
  refine ta_turn_l22_ok xs (fun m0 eq => ?_) _ _ _ _ _ _ _ _ hq0 f33
  subst eq
  try dsimp only at h
  intro o25 o26 o27 o28 o29 o30 o31 o32
  obtain rfl := Option.some.inj h
  exact ry_rv op105_107 ms_105 rfl
/-! se_findsOne -/
theorem op106_0 : rn_op 106 0 = some (.aload_n 0, 1, 0, 0, 0) := by decide +kernel
theorem op106_1 : rn_op 106 1 = some (.iconst 1, 1, 0, 0, 0) := by decide +kernel
theorem op106_2 : rn_op 106 2 = some (.putfield 76, 3, 4, 10, 0) := by decide +kernel
theorem op106_5 : rn_op 106 5 = some (.aload_n 0, 1, 0, 0, 0) := by decide +kernel
theorem op106_6 : rn_op 106 6 = some (.iconst 1, 1, 0, 0, 0) := by decide +kernel
theorem op106_7 : rn_op 106 7 = some (.putfield 104, 3, 4, 11, 0) := by decide +kernel
theorem op106_10 : rn_op 106 10 = some (.aload_n 0, 1, 0, 0, 0) := by decide +kernel
theorem op106_11 : rn_op 106 11 = some (.invokevirtual 98, 3, 65, 1, 4) := by decide +kernel
theorem op106_14 : rn_op 106 14 = some (.aload_n 0, 1, 0, 0, 0) := by decide +kernel
theorem op106_15 : rn_op 106 15 = some (.getfield 104, 3, 4, 11, 0) := by decide +kernel
theorem op106_18 : rn_op 106 18 = some (.ifCond .ne 7, 3, 0, 0, 0) := by decide +kernel
theorem op106_21 : rn_op 106 21 = some (.iconst 1, 1, 0, 0, 0) := by decide +kernel
theorem op106_22 : rn_op 106 22 = some (.goto 4, 3, 0, 0, 0) := by decide +kernel
theorem op106_25 : rn_op 106 25 = some (.iconst 0, 1, 0, 0, 0) := by decide +kernel
theorem op106_26 : rn_op 106 26 = some (.ireturn, 1, 0, 0, 0) := by decide +kernel
def se_findsOne (n : Nat)  (m : rn_Mem) : Option (Int32 × rn_Mem) :=
  (some (rm_i m 51 10 1)).bind fun (m1 : rn_Mem) =>
  (some (rm_i m1 51 11 1)).bind fun (m2 : rn_Mem) =>
  (se_run n m2).bind fun m3 =>
  if (m3.1 51 11) = 0 then
    some (1, m3)
  else
    some (0, m3)
set_option maxHeartbeats 4000000 in
set_option maxRecDepth 20000 in
theorem se_findsOne_ok (xs : List Int32) {d : Nat} (hd : 40 ≤ d) {n : Nat} {m mO : rn_Mem} {rO : Int32} (h : se_findsOne n  m = some (rO, mO)) : rn_R xs d 106 0 (rn_ent 1 [.ref 51]) [] (rn_SH, m) (some (.int rO)) (rn_SH, mO) := by
  obtain ⟨d, rfl⟩ : ∃ e, d = e + 1 := ⟨d - 1, by omega⟩
  unfold se_findsOne at h
  show rn_R xs (d + 1) 106 0 [some (.ref 51)] [] (rn_SH, m) (some (.int rO)) (rn_SH, mO)
  refine rx_p (L2 := [some (.ref 51)]) (S2 := [.ref 51]) (pc2 := 1) op106_0 rfl rfl ?_
  refine rx_ic (v := 1) (pc2 := 2) op106_1 (by decide) rfl ?_
  obtain ⟨m1, em1, h⟩ := rq_bv h
  refine rx_pf (m2 := m1) (pc2 := 5) op106_2 sp_51 rfl em1 rfl ?_
  refine rx_p (L2 := [some (.ref 51)]) (S2 := [.ref 51]) (pc2 := 6) op106_5 rfl rfl ?_
  refine rx_ic (v := 1) (pc2 := 7) op106_6 (by decide) rfl ?_
  obtain ⟨m2, em2, h⟩ := rq_bv h
  refine rx_pf (m2 := m2) (pc2 := 10) op106_7 sp_51 rfl em2 rfl ?_
  refine rx_p (L2 := [some (.ref 51)]) (S2 := [.ref 51]) (pc2 := 11) op106_10 rfl rfl ?_
  obtain ⟨m3, f4, h⟩ := rq_bind h
  try dsimp only at h
  refine ry_iv (p := 51) (vs := []) (T := []) (pc2 := 14) op106_11 ms_65 (by decide) rfl rfl (Nat.le_of_ble_eq_true rfl) (Nat.le_of_ble_eq_true rfl) sp_51 (se_run_ok xs (by omega)  f4) rfl ?_
  show rn_R _ _ _ _ _ [] _ _ _
  refine rx_p (L2 := [some (.ref 51)]) (S2 := [.ref 51]) (pc2 := 15) op106_14 rfl rfl ?_
  refine rx_gf (v := .int (m3.1 51 11)) (pc2 := 18) op106_15 sp_51 rfl rfl rfl ?_
  refine ry_if_ne (tgt := 25) (pc2 := 21) op106_18 (by decide) (by decide) rfl (fun b5 => ?_) (fun b5 => ?_)
  · have h := (if_pos b5).symm.trans h
    refine rx_ic (v := 1) (pc2 := 22) op106_21 (by decide) rfl ?_
    refine ry_go (tgt := 26) op106_22 (by decide) (by decide) ?_
    obtain ⟨rfl, rfl⟩ := rq_ret h
    exact ry_rz (x := 1) op106_26 ms_106 rfl (by decide)
  · have h := (if_neg b5).symm.trans h
    refine rx_ic (v := 0) (pc2 := 26) op106_25 (by decide) rfl ?_
    obtain ⟨rfl, rfl⟩ := rq_ret h
    exact ry_rz (x := 0) op106_26 ms_106 rfl (by decide)
/-! lt_findTurned -/
theorem op104_0 : rn_op 104 0 = some (.iconst 0, 1, 0, 0, 0) := by decide +kernel
theorem op104_1 : rn_op 104 1 = some (.istore_n 1, 1, 0, 0, 0) := by decide +kernel
theorem op104_2 : rn_op 104 2 = some (.iconst 0, 1, 0, 0, 0) := by decide +kernel
theorem op104_3 : rn_op 104 3 = some (.istore_n 2, 1, 0, 0, 0) := by decide +kernel
theorem op104_4 : rn_op 104 4 = some (.iload_n 2, 1, 0, 0, 0) := by decide +kernel
theorem op104_5 : rn_op 104 5 = some (.aload_n 0, 1, 0, 0, 0) := by decide +kernel
theorem op104_6 : rn_op 104 6 = some (.getfield 19, 3, 10, 1, 3) := by decide +kernel
theorem op104_9 : rn_op 104 9 = some (.getfield 62, 3, 6, 0, 3) := by decide +kernel
theorem op104_12 : rn_op 104 12 = some (.getfield 118, 3, 1, 1, 0) := by decide +kernel
theorem op104_15 : rn_op 104 15 = some (.if_icmp .ge 57, 3, 0, 0, 0) := by decide +kernel
theorem op104_18 : rn_op 104 18 = some (.aload_n 0, 1, 0, 0, 0) := by decide +kernel
theorem op104_19 : rn_op 104 19 = some (.getfield 32, 3, 10, 4, 3) := by decide +kernel
theorem op104_22 : rn_op 104 22 = some (.aload_n 0, 1, 0, 0, 0) := by decide +kernel
theorem op104_23 : rn_op 104 23 = some (.getfield 19, 3, 10, 1, 3) := by decide +kernel
theorem op104_26 : rn_op 104 26 = some (.invokevirtual 213, 3, 62, 2, 4) := by decide +kernel
theorem op104_29 : rn_op 104 29 = some (.aload_n 0, 1, 0, 0, 0) := by decide +kernel
theorem op104_30 : rn_op 104 30 = some (.getfield 32, 3, 10, 4, 3) := by decide +kernel
theorem op104_33 : rn_op 104 33 = some (.getfield 314, 3, 4, 1, 3) := by decide +kernel
theorem op104_36 : rn_op 104 36 = some (.aload_n 0, 1, 0, 0, 0) := by decide +kernel
theorem op104_37 : rn_op 104 37 = some (.getfield 19, 3, 10, 1, 3) := by decide +kernel
theorem op104_40 : rn_op 104 40 = some (.getfield 62, 3, 6, 0, 3) := by decide +kernel
theorem op104_43 : rn_op 104 43 = some (.getfield 118, 3, 1, 1, 0) := by decide +kernel
theorem op104_46 : rn_op 104 46 = some (.iload_n 2, 1, 0, 0, 0) := by decide +kernel
theorem op104_47 : rn_op 104 47 = some (.invokevirtual 315, 3, 105, 3, 7) := by decide +kernel
theorem op104_50 : rn_op 104 50 = some (.aload_n 0, 1, 0, 0, 0) := by decide +kernel
theorem op104_51 : rn_op 104 51 = some (.getfield 32, 3, 10, 4, 3) := by decide +kernel
theorem op104_54 : rn_op 104 54 = some (.invokevirtual 318, 3, 106, 1, 4) := by decide +kernel
theorem op104_57 : rn_op 104 57 = some (.ifCond .eq 9, 3, 0, 0, 0) := by decide +kernel
theorem op104_60 : rn_op 104 60 = some (.iload_n 1, 1, 0, 0, 0) := by decide +kernel
theorem op104_61 : rn_op 104 61 = some (.iconst 1, 1, 0, 0, 0) := by decide +kernel
theorem op104_62 : rn_op 104 62 = some (.iload_n 2, 1, 0, 0, 0) := by decide +kernel
theorem op104_63 : rn_op 104 63 = some (.ishl, 1, 0, 0, 0) := by decide +kernel
theorem op104_64 : rn_op 104 64 = some (.ior, 1, 0, 0, 0) := by decide +kernel
theorem op104_65 : rn_op 104 65 = some (.istore_n 1, 1, 0, 0, 0) := by decide +kernel
theorem op104_66 : rn_op 104 66 = some (.iinc 2 1, 3, 0, 0, 0) := by decide +kernel
theorem op104_69 : rn_op 104 69 = some (.goto (-65), 3, 0, 0, 0) := by decide +kernel
theorem op104_72 : rn_op 104 72 = some (.iload_n 1, 1, 0, 0, 0) := by decide +kernel
theorem op104_73 : rn_op 104 73 = some (.ireturn, 1, 0, 0, 0) := by decide +kernel
def lt_findTurned_l4  : Nat → Int32 → Int32 → rn_Mem → Option (Int32 × rn_Mem)
  | 0, _, _, _ => none
  | n + 1, a1, a2, m =>
    if a2 < (m.1 4 1) then
      (se_take n 3 m).bind fun m2 =>
      (ta_turn n 53 (m2.1 4 1) a2 m2).bind fun m4 =>
      (se_findsOne n m4).bind fun (r7, m6) =>
      (show Option (Int32) from
        if r7 = 0 then
          some (a1)
        else
          (some (a1 ||| ((1 : Int32) <<< (a2 &&& 31)))).bind fun (x10 : Int32) =>
          some (x10)).bind fun x11 =>
      (some (a2 + 1)).bind fun (x12 : Int32) =>
      lt_findTurned_l4 n x11 x12 m6
    else
      some (a1, m)
def lt_findTurned (n : Nat)  (m : rn_Mem) : Option (Int32 × rn_Mem) :=
  (lt_findTurned_l4 n 0 0 m).bind fun (x16, m14) =>
  some (x16, m14)
set_option maxHeartbeats 4000000 in
set_option maxRecDepth 20000 in
theorem lt_findTurned_l4_ok (xs : List Int32) {d : Nat} (hd : 41 ≤ d + 1) {r : Option Value} {τ : rn_H} {out : Int32 × rn_Mem} (hr : ∀ (z1 : Int32) (mO : rn_Mem), out = (z1, mO) → ∀ (o0 o2 : Option Value), rn_R xs (d + 1) 104 72 [o0, some (.int z1), o2] [] (rn_SH, mO) r τ) : ∀ (n : Nat) (a1 : Int32) (a2 : Int32) (m : rn_Mem), lt_findTurned_l4 n a1 a2 m = some out → rn_R xs (d + 1) 104 4 [some (.ref 0), some (.int a1), some (.int a2)] [] (rn_SH, m) r τ := by
  intro n
  induction n with
  | zero =>
    intro _ _ _ h
    cases h
  | succ n ih =>
    intro a1 a2 m h
    unfold lt_findTurned_l4 at h
    try dsimp only at h
    refine rx_p (L2 := [some (.ref 0), some (.int a1), some (.int a2)]) (S2 := [.int a2]) (pc2 := 5) op104_4 rfl rfl ?_
    refine rx_p (L2 := [some (.ref 0), some (.int a1), some (.int a2)]) (S2 := [.ref 0, .int a2]) (pc2 := 6) op104_5 rfl rfl ?_
    refine rx_gf (v := .ref 3) (pc2 := 9) op104_6 sp_0 rfl rfl rfl ?_
    refine rx_gf (v := .ref 4) (pc2 := 12) op104_9 sp_3 rfl rfl rfl ?_
    refine rx_gf (v := .int (m.1 4 1)) (pc2 := 15) op104_12 sp_4 rfl rfl rfl ?_
    refine ry_ic_ge (tgt := 72) (pc2 := 18) op104_15 (by decide) (by decide) rfl (fun b1 => ?_) (fun b1 => ?_)
    · have h := (if_pos b1).symm.trans h
      refine rx_p (L2 := [some (.ref 0), some (.int a1), some (.int a2)]) (S2 := [.ref 0]) (pc2 := 19) op104_18 rfl rfl ?_
      refine rx_gf (v := .ref 51) (pc2 := 22) op104_19 sp_0 rfl rfl rfl ?_
      refine rx_p (L2 := [some (.ref 0), some (.int a1), some (.int a2)]) (S2 := [.ref 0, .ref 51]) (pc2 := 23) op104_22 rfl rfl ?_
      refine rx_gf (v := .ref 3) (pc2 := 26) op104_23 sp_0 rfl rfl rfl ?_
      obtain ⟨m2, f3, h⟩ := rq_bind h
      try dsimp only at h
      refine ry_iv (p := 51) (vs := [.ref 3]) (T := []) (pc2 := 29) op104_26 ms_62 (by decide) rfl rfl (Nat.le_of_ble_eq_true rfl) (Nat.le_of_ble_eq_true rfl) sp_51 (se_take_ok xs (by omega) sa_3 f3) rfl ?_
      show rn_R _ _ _ _ _ [] _ _ _
      refine rx_p (L2 := [some (.ref 0), some (.int a1), some (.int a2)]) (S2 := [.ref 0]) (pc2 := 30) op104_29 rfl rfl ?_
      refine rx_gf (v := .ref 51) (pc2 := 33) op104_30 sp_0 rfl rfl rfl ?_
      refine rx_gf (v := .ref 53) (pc2 := 36) op104_33 sp_51 rfl rfl rfl ?_
      refine rx_p (L2 := [some (.ref 0), some (.int a1), some (.int a2)]) (S2 := [.ref 0, .ref 53]) (pc2 := 37) op104_36 rfl rfl ?_
      refine rx_gf (v := .ref 3) (pc2 := 40) op104_37 sp_0 rfl rfl rfl ?_
      refine rx_gf (v := .ref 4) (pc2 := 43) op104_40 sp_3 rfl rfl rfl ?_
      refine rx_gf (v := .int (m2.1 4 1)) (pc2 := 46) op104_43 sp_4 rfl rfl rfl ?_
      refine rx_p (L2 := [some (.ref 0), some (.int a1), some (.int a2)]) (S2 := [.int a2, .int (m2.1 4 1), .ref 53]) (pc2 := 47) op104_46 rfl rfl ?_
      obtain ⟨m4, f5, h⟩ := rq_bind h
      try dsimp only at h
      refine ry_iv (p := 53) (vs := [.int (m2.1 4 1), .int a2]) (T := []) (pc2 := 50) op104_47 ms_105 (by decide) rfl rfl (Nat.le_of_ble_eq_true rfl) (Nat.le_of_ble_eq_true rfl) sp_53 (ta_turn_ok xs (by omega) sa_53 f5) rfl ?_
      show rn_R _ _ _ _ _ [] _ _ _
      refine rx_p (L2 := [some (.ref 0), some (.int a1), some (.int a2)]) (S2 := [.ref 0]) (pc2 := 51) op104_50 rfl rfl ?_
      refine rx_gf (v := .ref 51) (pc2 := 54) op104_51 sp_0 rfl rfl rfl ?_
      obtain ⟨⟨r7, m6⟩, f8, h⟩ := rq_bind h
      try dsimp only at h
      refine ry_iv (p := 51) (vs := []) (T := []) (pc2 := 57) op104_54 ms_106 (by decide) rfl rfl (Nat.le_of_ble_eq_true rfl) (Nat.le_of_ble_eq_true rfl) sp_51 (se_findsOne_ok xs (by omega)  f8) rfl ?_
      show rn_R _ _ _ _ _ [.int r7] _ _ _
      obtain ⟨x11, gc13, h⟩ := rq_bind h
      try dsimp only at h
      have c13 : ∀ (_ : Unit), rn_R xs (d + 1) 104 66 [some (.ref 0), some (.int x11), some (.int a2)] [] (rn_SH, m6) r τ := by
        intro _
        obtain ⟨x12, ex12, h⟩ := rq_bv h
        refine rx_inc (w := 1) (v := x12) (L2 := [some (.ref 0), some (.int x11), some (.int x12)]) (pc2 := 69) op104_66 rfl (by decide) ex12 rfl rfl ?_
        refine ry_go (tgt := 4) op104_69 (by decide) (by decide) ?_
        exact ih _ _ _ h
      refine ry_if_eq (tgt := 66) (pc2 := 60) op104_57 (by decide) (by decide) rfl (fun b9 => ?_) (fun b9 => ?_)
      · have gc13 := (if_pos b9).symm.trans gc13
        cases gc13
        exact c13 ()
      · have gc13 := (if_neg b9).symm.trans gc13
        refine rx_p (L2 := [some (.ref 0), some (.int a1), some (.int a2)]) (S2 := [.int a1]) (pc2 := 61) op104_60 rfl rfl ?_
        refine rx_ic (v := 1) (pc2 := 62) op104_61 (by decide) rfl ?_
        refine rx_p (L2 := [some (.ref 0), some (.int a1), some (.int a2)]) (S2 := [.int a2, .int 1, .int a1]) (pc2 := 63) op104_62 rfl rfl ?_
        refine rx_p (L2 := [some (.ref 0), some (.int a1), some (.int a2)]) (S2 := [.int ((1 : Int32) <<< (a2 &&& 31)), .int a1]) (pc2 := 64) op104_63 rfl rfl ?_
        refine rx_p (L2 := [some (.ref 0), some (.int a1), some (.int a2)]) (S2 := [.int (a1 ||| ((1 : Int32) <<< (a2 &&& 31)))]) (pc2 := 65) op104_64 rfl rfl ?_
        obtain ⟨x10, ex10, gc13⟩ := rq_bv gc13
        refine rx_s (v := x10) (L2 := [some (.ref 0), some (.int x10), some (.int a2)]) (pc2 := 66) op104_65 ex10 rfl rfl ?_
        cases gc13
        exact c13 ()
    · have h := (if_neg b1).symm.trans h
      cases h
      exact hr _ _ rfl _ _
set_option maxHeartbeats 4000000 in
set_option maxRecDepth 20000 in
theorem lt_findTurned_ok (xs : List Int32) {d : Nat} (hd : 41 ≤ d) {n : Nat} {m mO : rn_Mem} {rO : Int32} (h : lt_findTurned n  m = some (rO, mO)) : rn_R xs d 104 0 (rn_ent 3 [.ref 0]) [] (rn_SH, m) (some (.int rO)) (rn_SH, mO) := by
  obtain ⟨d, rfl⟩ : ∃ e, d = e + 1 := ⟨d - 1, by omega⟩
  unfold lt_findTurned at h
  show rn_R xs (d + 1) 104 0 [some (.ref 0), none, none] [] (rn_SH, m) (some (.int rO)) (rn_SH, mO)
  refine rx_ic (v := 0) (pc2 := 1) op104_0 (by decide) rfl ?_
  refine rx_s (L2 := [some (.ref 0), some (.int 0), none]) (pc2 := 2) op104_1 rfl rfl rfl ?_
  refine rx_ic (v := 0) (pc2 := 3) op104_2 (by decide) rfl ?_
  refine rx_s (L2 := [some (.ref 0), some (.int 0), some (.int 0)]) (pc2 := 4) op104_3 rfl rfl rfl ?_
  obtain ⟨wf18, f18, h⟩ := rq_bind h
  refine lt_findTurned_l4_ok xs hd (fun x16 m14 eq => ?_) _ _ _ _  f18
  subst eq
  try dsimp only at h
  intro o15 o17
  refine rx_p (L2 := [o15, some (.int x16), o17]) (S2 := [.int x16]) (pc2 := 73) op104_72 rfl rfl ?_
  obtain ⟨rfl, rfl⟩ := rq_ret h
  exact ry_ri op104_73 ms_104 rfl
/-! lt_turned -/
theorem op103_0 : rn_op 103 0 = some (.aload_n 0, 1, 0, 0, 0) := by decide +kernel
theorem op103_1 : rn_op 103 1 = some (.getfield 19, 3, 10, 1, 3) := by decide +kernel
theorem op103_4 : rn_op 103 4 = some (.getfield 93, 3, 6, 1, 3) := by decide +kernel
theorem op103_7 : rn_op 103 7 = some (.getfield 136, 3, 7, 0, 2) := by decide +kernel
theorem op103_10 : rn_op 103 10 = some (.ifCond .ne 6, 3, 0, 0, 0) := by decide +kernel
theorem op103_13 : rn_op 103 13 = some (.bipush (-2), 2, 0, 0, 0) := by decide +kernel
theorem op103_15 : rn_op 103 15 = some (.ireturn, 1, 0, 0, 0) := by decide +kernel
theorem op103_16 : rn_op 103 16 = some (.aload_n 0, 1, 0, 0, 0) := by decide +kernel
theorem op103_17 : rn_op 103 17 = some (.getfield 81, 3, 10, 8, 0) := by decide +kernel
theorem op103_20 : rn_op 103 20 = some (.bipush 8, 2, 0, 0, 0) := by decide +kernel
theorem op103_22 : rn_op 103 22 = some (.iand, 1, 0, 0, 0) := by decide +kernel
theorem op103_23 : rn_op 103 23 = some (.ifCond .ne 22, 3, 0, 0, 0) := by decide +kernel
theorem op103_26 : rn_op 103 26 = some (.aload_n 0, 1, 0, 0, 0) := by decide +kernel
theorem op103_27 : rn_op 103 27 = some (.aload_n 0, 1, 0, 0, 0) := by decide +kernel
theorem op103_28 : rn_op 103 28 = some (.invokevirtual 229, 3, 104, 1, 10) := by decide +kernel
theorem op103_31 : rn_op 103 31 = some (.putfield 232, 3, 10, 9, 0) := by decide +kernel
theorem op103_34 : rn_op 103 34 = some (.aload_n 0, 1, 0, 0, 0) := by decide +kernel
theorem op103_35 : rn_op 103 35 = some (.dup, 1, 0, 0, 0) := by decide +kernel
theorem op103_36 : rn_op 103 36 = some (.getfield 81, 3, 10, 8, 0) := by decide +kernel
theorem op103_39 : rn_op 103 39 = some (.bipush 8, 2, 0, 0, 0) := by decide +kernel
theorem op103_41 : rn_op 103 41 = some (.ior, 1, 0, 0, 0) := by decide +kernel
theorem op103_42 : rn_op 103 42 = some (.putfield 81, 3, 10, 8, 0) := by decide +kernel
theorem op103_45 : rn_op 103 45 = some (.aload_n 0, 1, 0, 0, 0) := by decide +kernel
theorem op103_46 : rn_op 103 46 = some (.getfield 232, 3, 10, 9, 0) := by decide +kernel
theorem op103_49 : rn_op 103 49 = some (.ireturn, 1, 0, 0, 0) := by decide +kernel
def lt_turned (n : Nat)  (m : rn_Mem) : Option (Int32 × rn_Mem) :=
  if (m.1 5 0) = 0 then
    some ((-2), m)
  else
    if ((m.1 0 8) &&& 8) = 0 then
      (lt_findTurned n m).bind fun (r4, m3) =>
      (some (rm_i m3 0 9 r4)).bind fun (m6 : rn_Mem) =>
      (some (rm_i m6 0 8 ((m6.1 0 8) ||| 8))).bind fun (m7 : rn_Mem) =>
      some (m7.1 0 9, m7)
    else
      some (m.1 0 9, m)
set_option maxHeartbeats 4000000 in
set_option maxRecDepth 20000 in
theorem lt_turned_ok (xs : List Int32) {d : Nat} (hd : 42 ≤ d) {n : Nat} {m mO : rn_Mem} {rO : Int32} (h : lt_turned n  m = some (rO, mO)) : rn_R xs d 103 0 (rn_ent 1 [.ref 0]) [] (rn_SH, m) (some (.int rO)) (rn_SH, mO) := by
  obtain ⟨d, rfl⟩ : ∃ e, d = e + 1 := ⟨d - 1, by omega⟩
  unfold lt_turned at h
  show rn_R xs (d + 1) 103 0 [some (.ref 0)] [] (rn_SH, m) (some (.int rO)) (rn_SH, mO)
  refine rx_p (L2 := [some (.ref 0)]) (S2 := [.ref 0]) (pc2 := 1) op103_0 rfl rfl ?_
  refine rx_gf (v := .ref 3) (pc2 := 4) op103_1 sp_0 rfl rfl rfl ?_
  refine rx_gf (v := .ref 5) (pc2 := 7) op103_4 sp_3 rfl rfl rfl ?_
  refine rx_gf (v := .int (m.1 5 0)) (pc2 := 10) op103_7 sp_5 rfl rfl rfl ?_
  refine ry_if_ne (tgt := 16) (pc2 := 13) op103_10 (by decide) (by decide) rfl (fun b1 => ?_) (fun b1 => ?_)
  · have h := (if_pos b1).symm.trans h
    refine rx_bp (v := (-2)) (pc2 := 15) op103_13 (by decide) rfl ?_
    obtain ⟨rfl, rfl⟩ := rq_ret h
    exact ry_ri op103_15 ms_103 rfl
  · have h := (if_neg b1).symm.trans h
    refine rx_p (L2 := [some (.ref 0)]) (S2 := [.ref 0]) (pc2 := 17) op103_16 rfl rfl ?_
    refine rx_gf (v := .int (m.1 0 8)) (pc2 := 20) op103_17 sp_0 rfl rfl rfl ?_
    refine rx_bp (v := 8) (pc2 := 22) op103_20 (by decide) rfl ?_
    refine rx_p (L2 := [some (.ref 0)]) (S2 := [.int ((m.1 0 8) &&& 8)]) (pc2 := 23) op103_22 rfl rfl ?_
    refine ry_if_ne (tgt := 45) (pc2 := 26) op103_23 (by decide) (by decide) rfl (fun b2 => ?_) (fun b2 => ?_)
    · have h := (if_pos b2).symm.trans h
      refine rx_p (L2 := [some (.ref 0)]) (S2 := [.ref 0]) (pc2 := 27) op103_26 rfl rfl ?_
      refine rx_p (L2 := [some (.ref 0)]) (S2 := [.ref 0, .ref 0]) (pc2 := 28) op103_27 rfl rfl ?_
      obtain ⟨⟨r4, m3⟩, f5, h⟩ := rq_bind h
      try dsimp only at h
      refine ry_iv (p := 0) (vs := []) (T := [.ref 0]) (pc2 := 31) op103_28 ms_104 (by decide) rfl rfl (Nat.le_of_ble_eq_true rfl) (Nat.le_of_ble_eq_true rfl) sp_0 (lt_findTurned_ok xs (by omega)  f5) rfl ?_
      show rn_R _ _ _ _ _ [.int r4, .ref 0] _ _ _
      obtain ⟨m6, em6, h⟩ := rq_bv h
      refine rx_pf (m2 := m6) (pc2 := 34) op103_31 sp_0 rfl em6 rfl ?_
      refine rx_p (L2 := [some (.ref 0)]) (S2 := [.ref 0]) (pc2 := 35) op103_34 rfl rfl ?_
      refine rx_p (L2 := [some (.ref 0)]) (S2 := [.ref 0, .ref 0]) (pc2 := 36) op103_35 rfl rfl ?_
      refine rx_gf (v := .int (m6.1 0 8)) (pc2 := 39) op103_36 sp_0 rfl rfl rfl ?_
      refine rx_bp (v := 8) (pc2 := 41) op103_39 (by decide) rfl ?_
      refine rx_p (L2 := [some (.ref 0)]) (S2 := [.int ((m6.1 0 8) ||| 8), .ref 0]) (pc2 := 42) op103_41 rfl rfl ?_
      obtain ⟨m7, em7, h⟩ := rq_bv h
      refine rx_pf (m2 := m7) (pc2 := 45) op103_42 sp_0 rfl em7 rfl ?_
      refine rx_p (L2 := [some (.ref 0)]) (S2 := [.ref 0]) (pc2 := 46) op103_45 rfl rfl ?_
      refine rx_gf (v := .int (m7.1 0 9)) (pc2 := 49) op103_46 sp_0 rfl rfl rfl ?_
      obtain ⟨rfl, rfl⟩ := rq_ret h
      exact ry_ri op103_49 ms_103 rfl
    · have h := (if_neg b2).symm.trans h
      refine rx_p (L2 := [some (.ref 0)]) (S2 := [.ref 0]) (pc2 := 46) op103_45 rfl rfl ?_
      refine rx_gf (v := .int (m.1 0 9)) (pc2 := 49) op103_46 sp_0 rfl rfl rfl ?_
      obtain ⟨rfl, rfl⟩ := rq_ret h
      exact ry_ri op103_49 ms_103 rfl
/-! lt_findOthers -/
theorem op108_0 : rn_op 108 0 = some (.iconst 0, 1, 0, 0, 0) := by decide +kernel
theorem op108_1 : rn_op 108 1 = some (.istore_n 1, 1, 0, 0, 0) := by decide +kernel
theorem op108_2 : rn_op 108 2 = some (.iconst (-1), 1, 0, 0, 0) := by decide +kernel
theorem op108_3 : rn_op 108 3 = some (.istore_n 2, 1, 0, 0, 0) := by decide +kernel
theorem op108_4 : rn_op 108 4 = some (.iload_n 2, 1, 0, 0, 0) := by decide +kernel
theorem op108_5 : rn_op 108 5 = some (.iconst 4, 1, 0, 0, 0) := by decide +kernel
theorem op108_6 : rn_op 108 6 = some (.if_icmp .ge 133, 3, 0, 0, 0) := by decide +kernel
theorem op108_9 : rn_op 108 9 = some (.iconst 0, 1, 0, 0, 0) := by decide +kernel
theorem op108_10 : rn_op 108 10 = some (.istore_n 3, 1, 0, 0, 0) := by decide +kernel
theorem op108_11 : rn_op 108 11 = some (.iload_n 3, 1, 0, 0, 0) := by decide +kernel
theorem op108_12 : rn_op 108 12 = some (.iconst 2, 1, 0, 0, 0) := by decide +kernel
theorem op108_13 : rn_op 108 13 = some (.if_icmp .ge 120, 3, 0, 0, 0) := by decide +kernel
theorem op108_16 : rn_op 108 16 = some (.iconst 0, 1, 0, 0, 0) := by decide +kernel
theorem op108_17 : rn_op 108 17 = some (.istore 4, 2, 0, 0, 0) := by decide +kernel
theorem op108_19 : rn_op 108 19 = some (.iconst 0, 1, 0, 0, 0) := by decide +kernel
theorem op108_20 : rn_op 108 20 = some (.istore 5, 2, 0, 0, 0) := by decide +kernel
theorem op108_22 : rn_op 108 22 = some (.iload 5, 2, 0, 0, 0) := by decide +kernel
theorem op108_24 : rn_op 108 24 = some (.getstatic 322, 3, 1, 0, 0) := by decide +kernel
theorem op108_27 : rn_op 108 27 = some (.arraylength, 1, 0, 0, 0) := by decide +kernel
theorem op108_28 : rn_op 108 28 = some (.if_icmp .ge 99, 3, 0, 0, 0) := by decide +kernel
theorem op108_31 : rn_op 108 31 = some (.getstatic 322, 3, 1, 0, 0) := by decide +kernel
theorem op108_34 : rn_op 108 34 = some (.iload 5, 2, 0, 0, 0) := by decide +kernel
theorem op108_36 : rn_op 108 36 = some (.iaload, 1, 0, 0, 0) := by decide +kernel
theorem op108_37 : rn_op 108 37 = some (.istore 6, 2, 0, 0, 0) := by decide +kernel
theorem op108_39 : rn_op 108 39 = some (.iload 4, 2, 0, 0, 0) := by decide +kernel
theorem op108_41 : rn_op 108 41 = some (.ifCond .ne 57, 3, 0, 0, 0) := by decide +kernel
theorem op108_44 : rn_op 108 44 = some (.aload_n 0, 1, 0, 0, 0) := by decide +kernel
theorem op108_45 : rn_op 108 45 = some (.getfield 32, 3, 10, 4, 3) := by decide +kernel
theorem op108_48 : rn_op 108 48 = some (.aload_n 0, 1, 0, 0, 0) := by decide +kernel
theorem op108_49 : rn_op 108 49 = some (.getfield 19, 3, 10, 1, 3) := by decide +kernel
theorem op108_52 : rn_op 108 52 = some (.invokevirtual 213, 3, 62, 2, 4) := by decide +kernel
theorem op108_55 : rn_op 108 55 = some (.aload_n 0, 1, 0, 0, 0) := by decide +kernel
theorem op108_56 : rn_op 108 56 = some (.getfield 32, 3, 10, 4, 3) := by decide +kernel
theorem op108_59 : rn_op 108 59 = some (.getfield 325, 3, 4, 0, 3) := by decide +kernel
theorem op108_62 : rn_op 108 62 = some (.iload_n 2, 1, 0, 0, 0) := by decide +kernel
theorem op108_63 : rn_op 108 63 = some (.putfield 326, 3, 1, 4, 0) := by decide +kernel
theorem op108_66 : rn_op 108 66 = some (.aload_n 0, 1, 0, 0, 0) := by decide +kernel
theorem op108_67 : rn_op 108 67 = some (.getfield 32, 3, 10, 4, 3) := by decide +kernel
theorem op108_70 : rn_op 108 70 = some (.getfield 325, 3, 4, 0, 3) := by decide +kernel
theorem op108_73 : rn_op 108 73 = some (.iload 6, 2, 0, 0, 0) := by decide +kernel
theorem op108_75 : rn_op 108 75 = some (.putfield 329, 3, 1, 5, 0) := by decide +kernel
theorem op108_78 : rn_op 108 78 = some (.aload_n 0, 1, 0, 0, 0) := by decide +kernel
theorem op108_79 : rn_op 108 79 = some (.getfield 32, 3, 10, 4, 3) := by decide +kernel
theorem op108_82 : rn_op 108 82 = some (.getfield 325, 3, 4, 0, 3) := by decide +kernel
theorem op108_85 : rn_op 108 85 = some (.iload_n 3, 1, 0, 0, 0) := by decide +kernel
theorem op108_86 : rn_op 108 86 = some (.putfield 332, 3, 1, 6, 0) := by decide +kernel
theorem op108_89 : rn_op 108 89 = some (.aload_n 0, 1, 0, 0, 0) := by decide +kernel
theorem op108_90 : rn_op 108 90 = some (.getfield 32, 3, 10, 4, 3) := by decide +kernel
theorem op108_93 : rn_op 108 93 = some (.invokevirtual 318, 3, 106, 1, 4) := by decide +kernel
theorem op108_96 : rn_op 108 96 = some (.istore 4, 2, 0, 0, 0) := by decide +kernel
theorem op108_98 : rn_op 108 98 = some (.iload 4, 2, 0, 0, 0) := by decide +kernel
theorem op108_100 : rn_op 108 100 = some (.ifCond .eq 21, 3, 0, 0, 0) := by decide +kernel
theorem op108_103 : rn_op 108 103 = some (.iload_n 1, 1, 0, 0, 0) := by decide +kernel
theorem op108_104 : rn_op 108 104 = some (.iconst 1, 1, 0, 0, 0) := by decide +kernel
theorem op108_105 : rn_op 108 105 = some (.bipush 6, 2, 0, 0, 0) := by decide +kernel
theorem op108_107 : rn_op 108 107 = some (.iload_n 2, 1, 0, 0, 0) := by decide +kernel
theorem op108_108 : rn_op 108 108 = some (.iconst 1, 1, 0, 0, 0) := by decide +kernel
theorem op108_109 : rn_op 108 109 = some (.iadd, 1, 0, 0, 0) := by decide +kernel
theorem op108_110 : rn_op 108 110 = some (.imul, 1, 0, 0, 0) := by decide +kernel
theorem op108_111 : rn_op 108 111 = some (.iconst 2, 1, 0, 0, 0) := by decide +kernel
theorem op108_112 : rn_op 108 112 = some (.iload 6, 2, 0, 0, 0) := by decide +kernel
theorem op108_114 : rn_op 108 114 = some (.imul, 1, 0, 0, 0) := by decide +kernel
theorem op108_115 : rn_op 108 115 = some (.iadd, 1, 0, 0, 0) := by decide +kernel
theorem op108_116 : rn_op 108 116 = some (.iload_n 3, 1, 0, 0, 0) := by decide +kernel
theorem op108_117 : rn_op 108 117 = some (.iadd, 1, 0, 0, 0) := by decide +kernel
theorem op108_118 : rn_op 108 118 = some (.ishl, 1, 0, 0, 0) := by decide +kernel
theorem op108_119 : rn_op 108 119 = some (.ior, 1, 0, 0, 0) := by decide +kernel
theorem op108_120 : rn_op 108 120 = some (.istore_n 1, 1, 0, 0, 0) := by decide +kernel
theorem op108_121 : rn_op 108 121 = some (.iinc 5 1, 3, 0, 0, 0) := by decide +kernel
theorem op108_124 : rn_op 108 124 = some (.goto (-102), 3, 0, 0, 0) := by decide +kernel
theorem op108_127 : rn_op 108 127 = some (.iinc 3 1, 3, 0, 0, 0) := by decide +kernel
theorem op108_130 : rn_op 108 130 = some (.goto (-119), 3, 0, 0, 0) := by decide +kernel
theorem op108_133 : rn_op 108 133 = some (.iinc 2 1, 3, 0, 0, 0) := by decide +kernel
theorem op108_136 : rn_op 108 136 = some (.goto (-132), 3, 0, 0, 0) := by decide +kernel
theorem op108_139 : rn_op 108 139 = some (.iload_n 1, 1, 0, 0, 0) := by decide +kernel
theorem op108_140 : rn_op 108 140 = some (.ireturn, 1, 0, 0, 0) := by decide +kernel
def lt_findOthers_l22 (a2 : Int32) (a3 : Int32) : Nat → Int32 → Int32 → Int32 → rn_Mem → Option (Int32 × rn_Mem)
  | 0, _, _, _, _ => none
  | n + 1, a1, a4, a5, m =>
    if a5 < (Int32.ofNat rn_strict.length) then
      if rn_in a5 (rn_strict.length) = true then
        (some (rn_strict.getD a5.toNatClampNeg 0)).bind fun (x5 : Int32) =>
        (show Option (Int32 × rn_Mem) from
          if a4 = 0 then
            (se_take n 3 m).bind fun m7 =>
            (some (rm_i m7 52 4 a2)).bind fun (m9 : rn_Mem) =>
            (some (rm_i m9 52 5 x5)).bind fun (m10 : rn_Mem) =>
            (some (rm_i m10 52 6 a3)).bind fun (m11 : rn_Mem) =>
            (se_findsOne n m11).bind fun (r13, m12) =>
            some (r13, m12)
          else
            some (a4, m)).bind fun (x15, m16) =>
        (show Option (Int32) from
          if x15 = 0 then
            some (a1)
          else
            (some (a1 ||| ((1 : Int32) <<< (((((6 : Int32) * (a2 + 1)) + ((2 : Int32) * x5)) + a3) &&& 31)))).bind fun (x18 : Int32) =>
            some (x18)).bind fun x19 =>
        (some (a5 + 1)).bind fun (x21 : Int32) =>
        lt_findOthers_l22 a2 a3 n x19 x15 x21 m16
      else none
    else
      some (a1, m)
def lt_findOthers_l11 (a2 : Int32) : Nat → Int32 → Int32 → rn_Mem → Option (Int32 × rn_Mem)
  | 0, _, _, _ => none
  | n + 1, a1, a3, m =>
    if a3 < 2 then
      (lt_findOthers_l22 a2 a3 n a1 0 0 m).bind fun (x25, m24) =>
      (some (a3 + 1)).bind fun (x29 : Int32) =>
      lt_findOthers_l11 a2 n x25 x29 m24
    else
      some (a1, m)
def lt_findOthers_l4  : Nat → Int32 → Int32 → rn_Mem → Option (Int32 × rn_Mem)
  | 0, _, _, _ => none
  | n + 1, a1, a2, m =>
    if a2 < 4 then
      (lt_findOthers_l11 a2 n a1 0 m).bind fun (x32, m31) =>
      (some (a2 + 1)).bind fun (x37 : Int32) =>
      lt_findOthers_l4 n x32 x37 m31
    else
      some (a1, m)
def lt_findOthers (n : Nat)  (m : rn_Mem) : Option (Int32 × rn_Mem) :=
  (lt_findOthers_l4 n 0 (-1) m).bind fun (x41, m39) =>
  some (x41, m39)
set_option maxHeartbeats 4000000 in
set_option maxRecDepth 20000 in
theorem lt_findOthers_l22_ok (xs : List Int32) {d : Nat} (hd : 41 ≤ d + 1) {a2 : Int32} {a3 : Int32} {r : Option Value} {τ : rn_H} {out : Int32 × rn_Mem} (hr : ∀ (z1 : Int32) (mO : rn_Mem), out = (z1, mO) → ∀ (o4 o5 o6 : Option Value), rn_R xs (d + 1) 108 127 [some (.ref 0), some (.int z1), some (.int a2), some (.int a3), o4, o5, o6] [] (rn_SH, mO) r τ) : ∀ (n : Nat) (a1 : Int32) (a4 : Int32) (a5 : Int32) (o6 : Option Value) (m : rn_Mem), lt_findOthers_l22 a2 a3 n a1 a4 a5 m = some out → rn_R xs (d + 1) 108 22 [some (.ref 0), some (.int a1), some (.int a2), some (.int a3), some (.int a4), some (.int a5), o6] [] (rn_SH, m) r τ := by
  intro n
  induction n with
  | zero =>
    intro _ _ _ _ _ h
    cases h
  | succ n ih =>
    intro a1 a4 a5 o6 m h
    unfold lt_findOthers_l22 at h
    try dsimp only at h
    refine rx_p (L2 := [some (.ref 0), some (.int a1), some (.int a2), some (.int a3), some (.int a4), some (.int a5), o6]) (S2 := [.int a5]) (pc2 := 24) op108_22 rfl rfl ?_
    refine rx_gs (pc2 := 27) op108_24 rfl ?_
    refine rx_aly (pc2 := 28) op108_27 (by decide) (by decide) rfl ?_
    show rn_R _ _ _ _ _ [.int (Int32.ofNat rn_strict.length), .int a5] _ _ _
    refine ry_ic_ge (tgt := 127) (pc2 := 31) op108_28 (by decide) (by decide) rfl (fun b3 => ?_) (fun b3 => ?_)
    · have h := (if_pos b3).symm.trans h
      refine rx_gs (pc2 := 34) op108_31 rfl ?_
      refine rx_p (L2 := [some (.ref 0), some (.int a1), some (.int a2), some (.int a3), some (.int a4), some (.int a5), o6]) (S2 := [.int a5, .ref 10001]) (pc2 := 36) op108_34 rfl rfl ?_
      obtain ⟨k4, h⟩ := rq_chk h
      refine rx_ix (pc2 := 37) op108_36 (by decide) k4 rfl ?_
      show rn_R _ _ _ _ _ [.int (rn_strict.getD a5.toNatClampNeg 0)] _ _ _
      obtain ⟨x5, ex5, h⟩ := rq_bv h
      refine rx_s (v := x5) (L2 := [some (.ref 0), some (.int a1), some (.int a2), some (.int a3), some (.int a4), some (.int a5), some (.int x5)]) (pc2 := 39) op108_37 ex5 rfl rfl ?_
      refine rx_p (L2 := [some (.ref 0), some (.int a1), some (.int a2), some (.int a3), some (.int a4), some (.int a5), some (.int x5)]) (S2 := [.int a4]) (pc2 := 41) op108_39 rfl rfl ?_
      obtain ⟨⟨x15, m16⟩, gc23, h⟩ := rq_bind h
      try dsimp only at h
      have c23 : ∀ (_ : Unit), rn_R xs (d + 1) 108 98 [some (.ref 0), some (.int a1), some (.int a2), some (.int a3), some (.int x15), some (.int a5), some (.int x5)] [] (rn_SH, m16) r τ := by
        intro _
        refine rx_p (L2 := [some (.ref 0), some (.int a1), some (.int a2), some (.int a3), some (.int x15), some (.int a5), some (.int x5)]) (S2 := [.int x15]) (pc2 := 100) op108_98 rfl rfl ?_
        obtain ⟨x19, gc22, h⟩ := rq_bind h
        try dsimp only at h
        have c22 : ∀ (o20 : Option Value), rn_R xs (d + 1) 108 121 [some (.ref 0), some (.int x19), some (.int a2), some (.int a3), some (.int x15), some (.int a5), o20] [] (rn_SH, m16) r τ := by
          intro o20
          obtain ⟨x21, ex21, h⟩ := rq_bv h
          refine rx_inc (w := 1) (v := x21) (L2 := [some (.ref 0), some (.int x19), some (.int a2), some (.int a3), some (.int x15), some (.int x21), o20]) (pc2 := 124) op108_121 rfl (by decide) ex21 rfl rfl ?_
          refine ry_go (tgt := 22) op108_124 (by decide) (by decide) ?_
          exact ih _ _ _ _ _ h
        refine ry_if_eq (tgt := 121) (pc2 := 103) op108_100 (by decide) (by decide) rfl (fun b17 => ?_) (fun b17 => ?_)
        · have gc22 := (if_pos b17).symm.trans gc22
          cases gc22
          exact c22 _
        · have gc22 := (if_neg b17).symm.trans gc22
          refine rx_p (L2 := [some (.ref 0), some (.int a1), some (.int a2), some (.int a3), some (.int x15), some (.int a5), some (.int x5)]) (S2 := [.int a1]) (pc2 := 104) op108_103 rfl rfl ?_
          refine rx_ic (v := 1) (pc2 := 105) op108_104 (by decide) rfl ?_
          refine rx_bp (v := 6) (pc2 := 107) op108_105 (by decide) rfl ?_
          refine rx_p (L2 := [some (.ref 0), some (.int a1), some (.int a2), some (.int a3), some (.int x15), some (.int a5), some (.int x5)]) (S2 := [.int a2, .int 6, .int 1, .int a1]) (pc2 := 108) op108_107 rfl rfl ?_
          refine rx_ic (v := 1) (pc2 := 109) op108_108 (by decide) rfl ?_
          refine rx_p (L2 := [some (.ref 0), some (.int a1), some (.int a2), some (.int a3), some (.int x15), some (.int a5), some (.int x5)]) (S2 := [.int (a2 + 1), .int 6, .int 1, .int a1]) (pc2 := 110) op108_109 rfl rfl ?_
          refine rx_p (L2 := [some (.ref 0), some (.int a1), some (.int a2), some (.int a3), some (.int x15), some (.int a5), some (.int x5)]) (S2 := [.int ((6 : Int32) * (a2 + 1)), .int 1, .int a1]) (pc2 := 111) op108_110 rfl rfl ?_
          refine rx_ic (v := 2) (pc2 := 112) op108_111 (by decide) rfl ?_
          refine rx_p (L2 := [some (.ref 0), some (.int a1), some (.int a2), some (.int a3), some (.int x15), some (.int a5), some (.int x5)]) (S2 := [.int x5, .int 2, .int ((6 : Int32) * (a2 + 1)), .int 1, .int a1]) (pc2 := 114) op108_112 rfl rfl ?_
          refine rx_p (L2 := [some (.ref 0), some (.int a1), some (.int a2), some (.int a3), some (.int x15), some (.int a5), some (.int x5)]) (S2 := [.int ((2 : Int32) * x5), .int ((6 : Int32) * (a2 + 1)), .int 1, .int a1]) (pc2 := 115) op108_114 rfl rfl ?_
          refine rx_p (L2 := [some (.ref 0), some (.int a1), some (.int a2), some (.int a3), some (.int x15), some (.int a5), some (.int x5)]) (S2 := [.int (((6 : Int32) * (a2 + 1)) + ((2 : Int32) * x5)), .int 1, .int a1]) (pc2 := 116) op108_115 rfl rfl ?_
          refine rx_p (L2 := [some (.ref 0), some (.int a1), some (.int a2), some (.int a3), some (.int x15), some (.int a5), some (.int x5)]) (S2 := [.int a3, .int (((6 : Int32) * (a2 + 1)) + ((2 : Int32) * x5)), .int 1, .int a1]) (pc2 := 117) op108_116 rfl rfl ?_
          refine rx_p (L2 := [some (.ref 0), some (.int a1), some (.int a2), some (.int a3), some (.int x15), some (.int a5), some (.int x5)]) (S2 := [.int ((((6 : Int32) * (a2 + 1)) + ((2 : Int32) * x5)) + a3), .int 1, .int a1]) (pc2 := 118) op108_117 rfl rfl ?_
          refine rx_p (L2 := [some (.ref 0), some (.int a1), some (.int a2), some (.int a3), some (.int x15), some (.int a5), some (.int x5)]) (S2 := [.int ((1 : Int32) <<< (((((6 : Int32) * (a2 + 1)) + ((2 : Int32) * x5)) + a3) &&& 31)), .int a1]) (pc2 := 119) op108_118 rfl rfl ?_
          refine rx_p (L2 := [some (.ref 0), some (.int a1), some (.int a2), some (.int a3), some (.int x15), some (.int a5), some (.int x5)]) (S2 := [.int (a1 ||| ((1 : Int32) <<< (((((6 : Int32) * (a2 + 1)) + ((2 : Int32) * x5)) + a3) &&& 31)))]) (pc2 := 120) op108_119 rfl rfl ?_
          obtain ⟨x18, ex18, gc22⟩ := rq_bv gc22
          refine rx_s (v := x18) (L2 := [some (.ref 0), some (.int x18), some (.int a2), some (.int a3), some (.int x15), some (.int a5), some (.int x5)]) (pc2 := 121) op108_120 ex18 rfl rfl ?_
          cases gc22
          exact c22 _
      refine ry_if_ne (tgt := 98) (pc2 := 44) op108_41 (by decide) (by decide) rfl (fun b6 => ?_) (fun b6 => ?_)
      · have gc23 := (if_pos b6).symm.trans gc23
        refine rx_p (L2 := [some (.ref 0), some (.int a1), some (.int a2), some (.int a3), some (.int a4), some (.int a5), some (.int x5)]) (S2 := [.ref 0]) (pc2 := 45) op108_44 rfl rfl ?_
        refine rx_gf (v := .ref 51) (pc2 := 48) op108_45 sp_0 rfl rfl rfl ?_
        refine rx_p (L2 := [some (.ref 0), some (.int a1), some (.int a2), some (.int a3), some (.int a4), some (.int a5), some (.int x5)]) (S2 := [.ref 0, .ref 51]) (pc2 := 49) op108_48 rfl rfl ?_
        refine rx_gf (v := .ref 3) (pc2 := 52) op108_49 sp_0 rfl rfl rfl ?_
        obtain ⟨m7, f8, gc23⟩ := rq_bind gc23
        try dsimp only at gc23
        refine ry_iv (p := 51) (vs := [.ref 3]) (T := []) (pc2 := 55) op108_52 ms_62 (by decide) rfl rfl (Nat.le_of_ble_eq_true rfl) (Nat.le_of_ble_eq_true rfl) sp_51 (se_take_ok xs (by omega) sa_3 f8) rfl ?_
        show rn_R _ _ _ _ _ [] _ _ _
        refine rx_p (L2 := [some (.ref 0), some (.int a1), some (.int a2), some (.int a3), some (.int a4), some (.int a5), some (.int x5)]) (S2 := [.ref 0]) (pc2 := 56) op108_55 rfl rfl ?_
        refine rx_gf (v := .ref 51) (pc2 := 59) op108_56 sp_0 rfl rfl rfl ?_
        refine rx_gf (v := .ref 52) (pc2 := 62) op108_59 sp_51 rfl rfl rfl ?_
        refine rx_p (L2 := [some (.ref 0), some (.int a1), some (.int a2), some (.int a3), some (.int a4), some (.int a5), some (.int x5)]) (S2 := [.int a2, .ref 52]) (pc2 := 63) op108_62 rfl rfl ?_
        obtain ⟨m9, em9, gc23⟩ := rq_bv gc23
        refine rx_pf (m2 := m9) (pc2 := 66) op108_63 sp_52 rfl em9 rfl ?_
        refine rx_p (L2 := [some (.ref 0), some (.int a1), some (.int a2), some (.int a3), some (.int a4), some (.int a5), some (.int x5)]) (S2 := [.ref 0]) (pc2 := 67) op108_66 rfl rfl ?_
        refine rx_gf (v := .ref 51) (pc2 := 70) op108_67 sp_0 rfl rfl rfl ?_
        refine rx_gf (v := .ref 52) (pc2 := 73) op108_70 sp_51 rfl rfl rfl ?_
        refine rx_p (L2 := [some (.ref 0), some (.int a1), some (.int a2), some (.int a3), some (.int a4), some (.int a5), some (.int x5)]) (S2 := [.int x5, .ref 52]) (pc2 := 75) op108_73 rfl rfl ?_
        obtain ⟨m10, em10, gc23⟩ := rq_bv gc23
        refine rx_pf (m2 := m10) (pc2 := 78) op108_75 sp_52 rfl em10 rfl ?_
        refine rx_p (L2 := [some (.ref 0), some (.int a1), some (.int a2), some (.int a3), some (.int a4), some (.int a5), some (.int x5)]) (S2 := [.ref 0]) (pc2 := 79) op108_78 rfl rfl ?_
        refine rx_gf (v := .ref 51) (pc2 := 82) op108_79 sp_0 rfl rfl rfl ?_
        refine rx_gf (v := .ref 52) (pc2 := 85) op108_82 sp_51 rfl rfl rfl ?_
        refine rx_p (L2 := [some (.ref 0), some (.int a1), some (.int a2), some (.int a3), some (.int a4), some (.int a5), some (.int x5)]) (S2 := [.int a3, .ref 52]) (pc2 := 86) op108_85 rfl rfl ?_
        obtain ⟨m11, em11, gc23⟩ := rq_bv gc23
        refine rx_pf (m2 := m11) (pc2 := 89) op108_86 sp_52 rfl em11 rfl ?_
        refine rx_p (L2 := [some (.ref 0), some (.int a1), some (.int a2), some (.int a3), some (.int a4), some (.int a5), some (.int x5)]) (S2 := [.ref 0]) (pc2 := 90) op108_89 rfl rfl ?_
        refine rx_gf (v := .ref 51) (pc2 := 93) op108_90 sp_0 rfl rfl rfl ?_
        obtain ⟨⟨r13, m12⟩, f14, gc23⟩ := rq_bind gc23
        try dsimp only at gc23
        refine ry_iv (p := 51) (vs := []) (T := []) (pc2 := 96) op108_93 ms_106 (by decide) rfl rfl (Nat.le_of_ble_eq_true rfl) (Nat.le_of_ble_eq_true rfl) sp_51 (se_findsOne_ok xs (by omega)  f14) rfl ?_
        show rn_R _ _ _ _ _ [.int r13] _ _ _
        refine rx_s (L2 := [some (.ref 0), some (.int a1), some (.int a2), some (.int a3), some (.int r13), some (.int a5), some (.int x5)]) (pc2 := 98) op108_96 rfl rfl rfl ?_
        cases gc23
        exact c23 ()
      · have gc23 := (if_neg b6).symm.trans gc23
        cases gc23
        exact c23 ()
    · have h := (if_neg b3).symm.trans h
      cases h
      exact hr _ _ rfl _ _ _
set_option maxHeartbeats 4000000 in
set_option maxRecDepth 20000 in
theorem lt_findOthers_l11_ok (xs : List Int32) {d : Nat} (hd : 41 ≤ d + 1) {a2 : Int32} {r : Option Value} {τ : rn_H} {out : Int32 × rn_Mem} (hr : ∀ (z1 : Int32) (mO : rn_Mem), out = (z1, mO) → ∀ (o3 o4 o5 o6 : Option Value), rn_R xs (d + 1) 108 133 [some (.ref 0), some (.int z1), some (.int a2), o3, o4, o5, o6] [] (rn_SH, mO) r τ) : ∀ (n : Nat) (a1 : Int32) (a3 : Int32) (o4 o5 o6 : Option Value) (m : rn_Mem), lt_findOthers_l11 a2 n a1 a3 m = some out → rn_R xs (d + 1) 108 11 [some (.ref 0), some (.int a1), some (.int a2), some (.int a3), o4, o5, o6] [] (rn_SH, m) r τ := by
  intro n
  induction n with
  | zero =>
    intro _ _ _ _ _ _ h
    cases h
  | succ n ih =>
    intro a1 a3 o4 o5 o6 m h
    unfold lt_findOthers_l11 at h
    try dsimp only at h
    refine rx_p (L2 := [some (.ref 0), some (.int a1), some (.int a2), some (.int a3), o4, o5, o6]) (S2 := [.int a3]) (pc2 := 12) op108_11 rfl rfl ?_
    refine rx_ic (v := 2) (pc2 := 13) op108_12 (by decide) rfl ?_
    refine ry_ic_ge (tgt := 133) (pc2 := 16) op108_13 (by decide) (by decide) rfl (fun b2 => ?_) (fun b2 => ?_)
    · have h := (if_pos b2).symm.trans h
      refine rx_ic (v := 0) (pc2 := 17) op108_16 (by decide) rfl ?_
      refine rx_s (L2 := [some (.ref 0), some (.int a1), some (.int a2), some (.int a3), some (.int 0), o5, o6]) (pc2 := 19) op108_17 rfl rfl rfl ?_
      refine rx_ic (v := 0) (pc2 := 20) op108_19 (by decide) rfl ?_
      refine rx_s (L2 := [some (.ref 0), some (.int a1), some (.int a2), some (.int a3), some (.int 0), some (.int 0), o6]) (pc2 := 22) op108_20 rfl rfl rfl ?_
      obtain ⟨wf30, f30, h⟩ := rq_bind h
      refine lt_findOthers_l22_ok xs hd (fun x25 m24 eq => ?_) _ _ _ _ _ _  f30
      subst eq
      try dsimp only at h
      intro o26 o27 o28
      obtain ⟨x29, ex29, h⟩ := rq_bv h
      refine rx_inc (w := 1) (v := x29) (L2 := [some (.ref 0), some (.int x25), some (.int a2), some (.int x29), o26, o27, o28]) (pc2 := 130) op108_127 rfl (by decide) ex29 rfl rfl ?_
      refine ry_go (tgt := 11) op108_130 (by decide) (by decide) ?_
      exact ih _ _ _ _ _ _ h
    · have h := (if_neg b2).symm.trans h
      cases h
      exact hr _ _ rfl _ _ _ _
set_option maxHeartbeats 4000000 in
set_option maxRecDepth 20000 in
theorem lt_findOthers_l4_ok (xs : List Int32) {d : Nat} (hd : 41 ≤ d + 1) {r : Option Value} {τ : rn_H} {out : Int32 × rn_Mem} (hr : ∀ (z1 : Int32) (mO : rn_Mem), out = (z1, mO) → ∀ (o0 o2 o3 o4 o5 o6 : Option Value), rn_R xs (d + 1) 108 139 [o0, some (.int z1), o2, o3, o4, o5, o6] [] (rn_SH, mO) r τ) : ∀ (n : Nat) (a1 : Int32) (a2 : Int32) (o3 o4 o5 o6 : Option Value) (m : rn_Mem), lt_findOthers_l4 n a1 a2 m = some out → rn_R xs (d + 1) 108 4 [some (.ref 0), some (.int a1), some (.int a2), o3, o4, o5, o6] [] (rn_SH, m) r τ := by
  intro n
  induction n with
  | zero =>
    intro _ _ _ _ _ _ _ h
    cases h
  | succ n ih =>
    intro a1 a2 o3 o4 o5 o6 m h
    unfold lt_findOthers_l4 at h
    try dsimp only at h
    refine rx_p (L2 := [some (.ref 0), some (.int a1), some (.int a2), o3, o4, o5, o6]) (S2 := [.int a2]) (pc2 := 5) op108_4 rfl rfl ?_
    refine rx_ic (v := 4) (pc2 := 6) op108_5 (by decide) rfl ?_
    refine ry_ic_ge (tgt := 139) (pc2 := 9) op108_6 (by decide) (by decide) rfl (fun b1 => ?_) (fun b1 => ?_)
    · have h := (if_pos b1).symm.trans h
      refine rx_ic (v := 0) (pc2 := 10) op108_9 (by decide) rfl ?_
      refine rx_s (L2 := [some (.ref 0), some (.int a1), some (.int a2), some (.int 0), o4, o5, o6]) (pc2 := 11) op108_10 rfl rfl rfl ?_
      obtain ⟨wf38, f38, h⟩ := rq_bind h
      refine lt_findOthers_l11_ok xs hd (fun x32 m31 eq => ?_) _ _ _ _ _ _ _  f38
      subst eq
      try dsimp only at h
      intro o33 o34 o35 o36
      obtain ⟨x37, ex37, h⟩ := rq_bv h
      refine rx_inc (w := 1) (v := x37) (L2 := [some (.ref 0), some (.int x32), some (.int x37), o33, o34, o35, o36]) (pc2 := 136) op108_133 rfl (by decide) ex37 rfl rfl ?_
      refine ry_go (tgt := 4) op108_136 (by decide) (by decide) ?_
      exact ih _ _ _ _ _ _ _ h
    · have h := (if_neg b1).symm.trans h
      cases h
      exact hr _ _ rfl _ _ _ _ _ _
set_option maxHeartbeats 4000000 in
set_option maxRecDepth 20000 in
theorem lt_findOthers_ok (xs : List Int32) {d : Nat} (hd : 41 ≤ d) {n : Nat} {m mO : rn_Mem} {rO : Int32} (h : lt_findOthers n  m = some (rO, mO)) : rn_R xs d 108 0 (rn_ent 7 [.ref 0]) [] (rn_SH, m) (some (.int rO)) (rn_SH, mO) := by
  obtain ⟨d, rfl⟩ : ∃ e, d = e + 1 := ⟨d - 1, by omega⟩
  unfold lt_findOthers at h
  show rn_R xs (d + 1) 108 0 [some (.ref 0), none, none, none, none, none, none] [] (rn_SH, m) (some (.int rO)) (rn_SH, mO)
  refine rx_ic (v := 0) (pc2 := 1) op108_0 (by decide) rfl ?_
  refine rx_s (L2 := [some (.ref 0), some (.int 0), none, none, none, none, none]) (pc2 := 2) op108_1 rfl rfl rfl ?_
  refine rx_ic (v := (-1)) (pc2 := 3) op108_2 (by decide) rfl ?_
  refine rx_s (L2 := [some (.ref 0), some (.int 0), some (.int (-1)), none, none, none, none]) (pc2 := 4) op108_3 rfl rfl rfl ?_
  obtain ⟨wf47, f47, h⟩ := rq_bind h
  refine lt_findOthers_l4_ok xs hd (fun x41 m39 eq => ?_) _ _ _ _ _ _ _ _  f47
  subst eq
  try dsimp only at h
  intro o40 o42 o43 o44 o45 o46
  refine rx_p (L2 := [o40, some (.int x41), o42, o43, o44, o45, o46]) (S2 := [.int x41]) (pc2 := 140) op108_139 rfl rfl ?_
  obtain ⟨rfl, rfl⟩ := rq_ret h
  exact ry_ri op108_140 ms_108 rfl
/-! lt_others -/
theorem op107_0 : rn_op 107 0 = some (.iload_n 1, 1, 0, 0, 0) := by decide +kernel
theorem op107_1 : rn_op 107 1 = some (.iconst (-1), 1, 0, 0, 0) := by decide +kernel
theorem op107_2 : rn_op 107 2 = some (.if_icmp .lt 9, 3, 0, 0, 0) := by decide +kernel
theorem op107_5 : rn_op 107 5 = some (.iload_n 1, 1, 0, 0, 0) := by decide +kernel
theorem op107_6 : rn_op 107 6 = some (.bipush 30, 2, 0, 0, 0) := by decide +kernel
theorem op107_8 : rn_op 107 8 = some (.if_icmp .lt 5, 3, 0, 0, 0) := by decide +kernel
theorem op107_11 : rn_op 107 11 = some (.iconst (-1), 1, 0, 0, 0) := by decide +kernel
theorem op107_12 : rn_op 107 12 = some (.ireturn, 1, 0, 0, 0) := by decide +kernel
theorem op107_13 : rn_op 107 13 = some (.aload_n 0, 1, 0, 0, 0) := by decide +kernel
theorem op107_14 : rn_op 107 14 = some (.getfield 19, 3, 10, 1, 3) := by decide +kernel
theorem op107_17 : rn_op 107 17 = some (.getfield 93, 3, 6, 1, 3) := by decide +kernel
theorem op107_20 : rn_op 107 20 = some (.getfield 136, 3, 7, 0, 2) := by decide +kernel
theorem op107_23 : rn_op 107 23 = some (.ifCond .ne 6, 3, 0, 0, 0) := by decide +kernel
theorem op107_26 : rn_op 107 26 = some (.bipush (-2), 2, 0, 0, 0) := by decide +kernel
theorem op107_28 : rn_op 107 28 = some (.ireturn, 1, 0, 0, 0) := by decide +kernel
theorem op107_29 : rn_op 107 29 = some (.aload_n 0, 1, 0, 0, 0) := by decide +kernel
theorem op107_30 : rn_op 107 30 = some (.getfield 81, 3, 10, 8, 0) := by decide +kernel
theorem op107_33 : rn_op 107 33 = some (.bipush 16, 2, 0, 0, 0) := by decide +kernel
theorem op107_35 : rn_op 107 35 = some (.iand, 1, 0, 0, 0) := by decide +kernel
theorem op107_36 : rn_op 107 36 = some (.ifCond .ne 22, 3, 0, 0, 0) := by decide +kernel
theorem op107_39 : rn_op 107 39 = some (.aload_n 0, 1, 0, 0, 0) := by decide +kernel
theorem op107_40 : rn_op 107 40 = some (.aload_n 0, 1, 0, 0, 0) := by decide +kernel
theorem op107_41 : rn_op 107 41 = some (.invokevirtual 235, 3, 108, 1, 10) := by decide +kernel
theorem op107_44 : rn_op 107 44 = some (.putfield 238, 3, 10, 10, 0) := by decide +kernel
theorem op107_47 : rn_op 107 47 = some (.aload_n 0, 1, 0, 0, 0) := by decide +kernel
theorem op107_48 : rn_op 107 48 = some (.dup, 1, 0, 0, 0) := by decide +kernel
theorem op107_49 : rn_op 107 49 = some (.getfield 81, 3, 10, 8, 0) := by decide +kernel
theorem op107_52 : rn_op 107 52 = some (.bipush 16, 2, 0, 0, 0) := by decide +kernel
theorem op107_54 : rn_op 107 54 = some (.ior, 1, 0, 0, 0) := by decide +kernel
theorem op107_55 : rn_op 107 55 = some (.putfield 81, 3, 10, 8, 0) := by decide +kernel
theorem op107_58 : rn_op 107 58 = some (.iload_n 1, 1, 0, 0, 0) := by decide +kernel
theorem op107_59 : rn_op 107 59 = some (.ifCond .ge 11, 3, 0, 0, 0) := by decide +kernel
theorem op107_62 : rn_op 107 62 = some (.aload_n 0, 1, 0, 0, 0) := by decide +kernel
theorem op107_63 : rn_op 107 63 = some (.getfield 238, 3, 10, 10, 0) := by decide +kernel
theorem op107_66 : rn_op 107 66 = some (.invokestatic 241, 3, 81, 1, 0) := by decide +kernel
theorem op107_69 : rn_op 107 69 = some (.ireturn, 1, 0, 0, 0) := by decide +kernel
theorem op107_70 : rn_op 107 70 = some (.iconst 0, 1, 0, 0, 0) := by decide +kernel
theorem op107_71 : rn_op 107 71 = some (.istore_n 2, 1, 0, 0, 0) := by decide +kernel
theorem op107_72 : rn_op 107 72 = some (.iconst 0, 1, 0, 0, 0) := by decide +kernel
theorem op107_73 : rn_op 107 73 = some (.istore_n 3, 1, 0, 0, 0) := by decide +kernel
theorem op107_74 : rn_op 107 74 = some (.iload_n 3, 1, 0, 0, 0) := by decide +kernel
theorem op107_75 : rn_op 107 75 = some (.bipush 30, 2, 0, 0, 0) := by decide +kernel
theorem op107_77 : rn_op 107 77 = some (.if_icmp .ge 30, 3, 0, 0, 0) := by decide +kernel
theorem op107_80 : rn_op 107 80 = some (.aload_n 0, 1, 0, 0, 0) := by decide +kernel
theorem op107_81 : rn_op 107 81 = some (.getfield 238, 3, 10, 10, 0) := by decide +kernel
theorem op107_84 : rn_op 107 84 = some (.iload_n 3, 1, 0, 0, 0) := by decide +kernel
theorem op107_85 : rn_op 107 85 = some (.ishr, 1, 0, 0, 0) := by decide +kernel
theorem op107_86 : rn_op 107 86 = some (.iconst 1, 1, 0, 0, 0) := by decide +kernel
theorem op107_87 : rn_op 107 87 = some (.iand, 1, 0, 0, 0) := by decide +kernel
theorem op107_88 : rn_op 107 88 = some (.ifCond .eq 13, 3, 0, 0, 0) := by decide +kernel
theorem op107_91 : rn_op 107 91 = some (.iload_n 2, 1, 0, 0, 0) := by decide +kernel
theorem op107_92 : rn_op 107 92 = some (.iload_n 1, 1, 0, 0, 0) := by decide +kernel
theorem op107_93 : rn_op 107 93 = some (.if_icmp .ne 5, 3, 0, 0, 0) := by decide +kernel
theorem op107_96 : rn_op 107 96 = some (.iload_n 3, 1, 0, 0, 0) := by decide +kernel
theorem op107_97 : rn_op 107 97 = some (.ireturn, 1, 0, 0, 0) := by decide +kernel
theorem op107_98 : rn_op 107 98 = some (.iinc 2 1, 3, 0, 0, 0) := by decide +kernel
theorem op107_101 : rn_op 107 101 = some (.iinc 3 1, 3, 0, 0, 0) := by decide +kernel
theorem op107_104 : rn_op 107 104 = some (.goto (-30), 3, 0, 0, 0) := by decide +kernel
theorem op107_107 : rn_op 107 107 = some (.bipush (-4), 2, 0, 0, 0) := by decide +kernel
theorem op107_109 : rn_op 107 109 = some (.ireturn, 1, 0, 0, 0) := by decide +kernel
def lt_others_l74 (a1 : Int32) : Nat → Int32 → Int32 → rn_Mem → Option ((Int32 × rn_Mem) ⊕ (rn_Mem))
  | 0, _, _, _ => none
  | n + 1, a2, a3, m =>
    if a3 < 30 then
      if (((m.1 0 10) >>> (a3 &&& 31)) &&& 1) = 0 then
        (some (a3 + 1)).bind fun (x21 : Int32) =>
        lt_others_l74 a1 n a2 x21 m
      else
        if a2 = a1 then
          some (.inl (a3, m))
        else
          (some (a2 + 1)).bind fun (x23 : Int32) =>
          (some (a3 + 1)).bind fun (x24 : Int32) =>
          lt_others_l74 a1 n x23 x24 m
    else
      some (.inr m)
def lt_others (n : Nat) (a1 : Int32) (m : rn_Mem) : Option (Int32 × rn_Mem) :=
  if a1 < (-1) then
    some ((-1), m)
  else
    if a1 < 30 then
      if (m.1 5 0) = 0 then
        some ((-2), m)
      else
        (show Option (rn_Mem) from
          if ((m.1 0 8) &&& 16) = 0 then
            (lt_findOthers n m).bind fun (r6, m5) =>
            (some (rm_i m5 0 10 r6)).bind fun (m8 : rn_Mem) =>
            (some (rm_i m8 0 8 ((m8.1 0 8) ||| 16))).bind fun (m9 : rn_Mem) =>
            some (m9)
          else
            some (m)).bind fun m12 =>
        if a1 < 0 then
          (ja_bitCount n (m12.1 0 10) m12).bind fun (r15, m14) =>
          some (r15, m14)
        else
          (lt_others_l74 a1 n 0 0 m12).bind fun q => match q with
          | .inl o => some o
          | .inr m25 =>
          some ((-4), m25)
    else
      some ((-1), m)
set_option maxHeartbeats 4000000 in
set_option maxRecDepth 20000 in
theorem lt_others_l74_ok (xs : List Int32) {d : Nat} (hd : 42 ≤ d + 1) {a1 : Int32} {r : Option Value} {τ : rn_H} {out : (Int32 × rn_Mem) ⊕ (rn_Mem)} (hl : ∀ (rO : Int32) (mO : rn_Mem), out = .inl (rO, mO) → r = (some (.int rO)) ∧ τ = (rn_SH, mO)) (hr : ∀ (mO : rn_Mem), out = .inr mO → ∀ (o0 o1 o2 o3 : Option Value), rn_R xs (d + 1) 107 107 [o0, o1, o2, o3] [] (rn_SH, mO) r τ) : ∀ (n : Nat) (a2 : Int32) (a3 : Int32) (m : rn_Mem), lt_others_l74 a1 n a2 a3 m = some out → rn_R xs (d + 1) 107 74 [some (.ref 0), some (.int a1), some (.int a2), some (.int a3)] [] (rn_SH, m) r τ := by
  intro n
  induction n with
  | zero =>
    intro _ _ _ h
    cases h
  | succ n ih =>
    intro a2 a3 m h
    unfold lt_others_l74 at h
    try dsimp only at h
    refine rx_p (L2 := [some (.ref 0), some (.int a1), some (.int a2), some (.int a3)]) (S2 := [.int a3]) (pc2 := 75) op107_74 rfl rfl ?_
    refine rx_bp (v := 30) (pc2 := 77) op107_75 (by decide) rfl ?_
    refine ry_ic_ge (tgt := 107) (pc2 := 80) op107_77 (by decide) (by decide) rfl (fun b17 => ?_) (fun b17 => ?_)
    · have h := (if_pos b17).symm.trans h
      refine rx_p (L2 := [some (.ref 0), some (.int a1), some (.int a2), some (.int a3)]) (S2 := [.ref 0]) (pc2 := 81) op107_80 rfl rfl ?_
      refine rx_gf (v := .int (m.1 0 10)) (pc2 := 84) op107_81 sp_0 rfl rfl rfl ?_
      refine rx_p (L2 := [some (.ref 0), some (.int a1), some (.int a2), some (.int a3)]) (S2 := [.int a3, .int (m.1 0 10)]) (pc2 := 85) op107_84 rfl rfl ?_
      refine rx_p (L2 := [some (.ref 0), some (.int a1), some (.int a2), some (.int a3)]) (S2 := [.int ((m.1 0 10) >>> (a3 &&& 31))]) (pc2 := 86) op107_85 rfl rfl ?_
      refine rx_ic (v := 1) (pc2 := 87) op107_86 (by decide) rfl ?_
      refine rx_p (L2 := [some (.ref 0), some (.int a1), some (.int a2), some (.int a3)]) (S2 := [.int (((m.1 0 10) >>> (a3 &&& 31)) &&& 1)]) (pc2 := 88) op107_87 rfl rfl ?_
      refine ry_if_eq (tgt := 101) (pc2 := 91) op107_88 (by decide) (by decide) rfl (fun b18 => ?_) (fun b18 => ?_)
      · have h := (if_pos b18).symm.trans h
        obtain ⟨x21, ex21, h⟩ := rq_bv h
        refine rx_inc (w := 1) (v := x21) (L2 := [some (.ref 0), some (.int a1), some (.int a2), some (.int x21)]) (pc2 := 104) op107_101 rfl (by decide) ex21 rfl rfl ?_
        refine ry_go (tgt := 74) op107_104 (by decide) (by decide) ?_
        exact ih _ _ _ h
      · have h := (if_neg b18).symm.trans h
        refine rx_p (L2 := [some (.ref 0), some (.int a1), some (.int a2), some (.int a3)]) (S2 := [.int a2]) (pc2 := 92) op107_91 rfl rfl ?_
        refine rx_p (L2 := [some (.ref 0), some (.int a1), some (.int a2), some (.int a3)]) (S2 := [.int a1, .int a2]) (pc2 := 93) op107_92 rfl rfl ?_
        refine ry_ic_ne (tgt := 98) (pc2 := 96) op107_93 (by decide) (by decide) rfl (fun b22 => ?_) (fun b22 => ?_)
        · have h := (if_pos b22).symm.trans h
          refine rx_p (L2 := [some (.ref 0), some (.int a1), some (.int a2), some (.int a3)]) (S2 := [.int a3]) (pc2 := 97) op107_96 rfl rfl ?_
          cases h
          obtain ⟨rfl, rfl⟩ := hl _ _ rfl
          exact ry_ri op107_97 ms_107 rfl
        · have h := (if_neg b22).symm.trans h
          obtain ⟨x23, ex23, h⟩ := rq_bv h
          refine rx_inc (w := 1) (v := x23) (L2 := [some (.ref 0), some (.int a1), some (.int x23), some (.int a3)]) (pc2 := 101) op107_98 rfl (by decide) ex23 rfl rfl ?_
          obtain ⟨x24, ex24, h⟩ := rq_bv h
          refine rx_inc (w := 1) (v := x24) (L2 := [some (.ref 0), some (.int a1), some (.int x23), some (.int x24)]) (pc2 := 104) op107_101 rfl (by decide) ex24 rfl rfl ?_
          refine ry_go (tgt := 74) op107_104 (by decide) (by decide) ?_
          exact ih _ _ _ h
    · have h := (if_neg b17).symm.trans h
      cases h
      exact hr _ rfl _ _ _ _
set_option maxHeartbeats 4000000 in
set_option maxRecDepth 20000 in
theorem lt_others_ok (xs : List Int32) {d : Nat} (hd : 42 ≤ d) {n : Nat} {a1 : Int32} {m mO : rn_Mem} {rO : Int32} (h : lt_others n a1 m = some (rO, mO)) : rn_R xs d 107 0 (rn_ent 4 [.ref 0, .int a1]) [] (rn_SH, m) (some (.int rO)) (rn_SH, mO) := by
  obtain ⟨d, rfl⟩ : ∃ e, d = e + 1 := ⟨d - 1, by omega⟩
  unfold lt_others at h
  show rn_R xs (d + 1) 107 0 [some (.ref 0), some (.int a1), none, none] [] (rn_SH, m) (some (.int rO)) (rn_SH, mO)
  refine rx_p (L2 := [some (.ref 0), some (.int a1), none, none]) (S2 := [.int a1]) (pc2 := 1) op107_0 rfl rfl ?_
  refine rx_ic (v := (-1)) (pc2 := 2) op107_1 (by decide) rfl ?_
  refine ry_ic_lt (tgt := 11) (pc2 := 5) op107_2 (by decide) (by decide) rfl (fun b1 => ?_) (fun b1 => ?_)
  · have h := (if_pos b1).symm.trans h
    refine rx_ic (v := (-1)) (pc2 := 12) op107_11 (by decide) rfl ?_
    obtain ⟨rfl, rfl⟩ := rq_ret h
    exact ry_ri op107_12 ms_107 rfl
  · have h := (if_neg b1).symm.trans h
    refine rx_p (L2 := [some (.ref 0), some (.int a1), none, none]) (S2 := [.int a1]) (pc2 := 6) op107_5 rfl rfl ?_
    refine rx_bp (v := 30) (pc2 := 8) op107_6 (by decide) rfl ?_
    refine ry_ic_lt (tgt := 13) (pc2 := 11) op107_8 (by decide) (by decide) rfl (fun b2 => ?_) (fun b2 => ?_)
    · have h := (if_pos b2).symm.trans h
      refine rx_p (L2 := [some (.ref 0), some (.int a1), none, none]) (S2 := [.ref 0]) (pc2 := 14) op107_13 rfl rfl ?_
      refine rx_gf (v := .ref 3) (pc2 := 17) op107_14 sp_0 rfl rfl rfl ?_
      refine rx_gf (v := .ref 5) (pc2 := 20) op107_17 sp_3 rfl rfl rfl ?_
      refine rx_gf (v := .int (m.1 5 0)) (pc2 := 23) op107_20 sp_5 rfl rfl rfl ?_
      refine ry_if_ne (tgt := 29) (pc2 := 26) op107_23 (by decide) (by decide) rfl (fun b3 => ?_) (fun b3 => ?_)
      · have h := (if_pos b3).symm.trans h
        refine rx_bp (v := (-2)) (pc2 := 28) op107_26 (by decide) rfl ?_
        obtain ⟨rfl, rfl⟩ := rq_ret h
        exact ry_ri op107_28 ms_107 rfl
      · have h := (if_neg b3).symm.trans h
        refine rx_p (L2 := [some (.ref 0), some (.int a1), none, none]) (S2 := [.ref 0]) (pc2 := 30) op107_29 rfl rfl ?_
        refine rx_gf (v := .int (m.1 0 8)) (pc2 := 33) op107_30 sp_0 rfl rfl rfl ?_
        refine rx_bp (v := 16) (pc2 := 35) op107_33 (by decide) rfl ?_
        refine rx_p (L2 := [some (.ref 0), some (.int a1), none, none]) (S2 := [.int ((m.1 0 8) &&& 16)]) (pc2 := 36) op107_35 rfl rfl ?_
        obtain ⟨m12, gc31, h⟩ := rq_bind h
        try dsimp only at h
        have c31 : ∀ (o10 o11 : Option Value), rn_R xs (d + 1) 107 58 [some (.ref 0), some (.int a1), o10, o11] [] (rn_SH, m12) (some (.int rO)) (rn_SH, mO) := by
          intro o10 o11
          refine rx_p (L2 := [some (.ref 0), some (.int a1), o10, o11]) (S2 := [.int a1]) (pc2 := 59) op107_58 rfl rfl ?_
          refine ry_if_ge (tgt := 70) (pc2 := 62) op107_59 (by decide) (by decide) rfl (fun b13 => ?_) (fun b13 => ?_)
          · have h := (if_pos b13).symm.trans h
            refine rx_p (L2 := [some (.ref 0), some (.int a1), o10, o11]) (S2 := [.ref 0]) (pc2 := 63) op107_62 rfl rfl ?_
            refine rx_gf (v := .int (m12.1 0 10)) (pc2 := 66) op107_63 sp_0 rfl rfl rfl ?_
            obtain ⟨⟨r15, m14⟩, f16, h⟩ := rq_bind h
            try dsimp only at h
            refine ry_is (vs := [.int (m12.1 0 10)]) (T := []) (pc2 := 69) op107_66 (by decide) ms_81 (by decide) rfl rfl (Nat.le_of_ble_eq_true rfl) (Nat.le_of_ble_eq_true rfl) (ja_bitCount_ok xs (by omega)  f16) rfl ?_
            show rn_R _ _ _ _ _ [.int r15] _ _ _
            obtain ⟨rfl, rfl⟩ := rq_ret h
            exact ry_ri op107_69 ms_107 rfl
          · have h := (if_neg b13).symm.trans h
            refine rx_ic (v := 0) (pc2 := 71) op107_70 (by decide) rfl ?_
            refine rx_s (L2 := [some (.ref 0), some (.int a1), some (.int 0), o11]) (pc2 := 72) op107_71 rfl rfl rfl ?_
            refine rx_ic (v := 0) (pc2 := 73) op107_72 (by decide) rfl ?_
            refine rx_s (L2 := [some (.ref 0), some (.int a1), some (.int 0), some (.int 0)]) (pc2 := 74) op107_73 rfl rfl rfl ?_
            obtain ⟨wf30, f30, h⟩ := rq_bind h
            refine lt_others_l74_ok xs hd (fun v0 m0 eq => ?_) (fun m25 eq => ?_) _ _ _ _  f30
            · subst eq
              try dsimp only at h
              cases h
              exact ⟨rfl, rfl⟩
            · subst eq
              try dsimp only at h
              intro o26 o27 o28 o29
              refine rx_bp (v := (-4)) (pc2 := 109) op107_107 (by decide) rfl ?_
              obtain ⟨rfl, rfl⟩ := rq_ret h
              exact ry_ri op107_109 ms_107 rfl
        refine ry_if_ne (tgt := 58) (pc2 := 39) op107_36 (by decide) (by decide) rfl (fun b4 => ?_) (fun b4 => ?_)
        · have gc31 := (if_pos b4).symm.trans gc31
          refine rx_p (L2 := [some (.ref 0), some (.int a1), none, none]) (S2 := [.ref 0]) (pc2 := 40) op107_39 rfl rfl ?_
          refine rx_p (L2 := [some (.ref 0), some (.int a1), none, none]) (S2 := [.ref 0, .ref 0]) (pc2 := 41) op107_40 rfl rfl ?_
          obtain ⟨⟨r6, m5⟩, f7, gc31⟩ := rq_bind gc31
          try dsimp only at gc31
          refine ry_iv (p := 0) (vs := []) (T := [.ref 0]) (pc2 := 44) op107_41 ms_108 (by decide) rfl rfl (Nat.le_of_ble_eq_true rfl) (Nat.le_of_ble_eq_true rfl) sp_0 (lt_findOthers_ok xs (by omega)  f7) rfl ?_
          show rn_R _ _ _ _ _ [.int r6, .ref 0] _ _ _
          obtain ⟨m8, em8, gc31⟩ := rq_bv gc31
          refine rx_pf (m2 := m8) (pc2 := 47) op107_44 sp_0 rfl em8 rfl ?_
          refine rx_p (L2 := [some (.ref 0), some (.int a1), none, none]) (S2 := [.ref 0]) (pc2 := 48) op107_47 rfl rfl ?_
          refine rx_p (L2 := [some (.ref 0), some (.int a1), none, none]) (S2 := [.ref 0, .ref 0]) (pc2 := 49) op107_48 rfl rfl ?_
          refine rx_gf (v := .int (m8.1 0 8)) (pc2 := 52) op107_49 sp_0 rfl rfl rfl ?_
          refine rx_bp (v := 16) (pc2 := 54) op107_52 (by decide) rfl ?_
          refine rx_p (L2 := [some (.ref 0), some (.int a1), none, none]) (S2 := [.int ((m8.1 0 8) ||| 16), .ref 0]) (pc2 := 55) op107_54 rfl rfl ?_
          obtain ⟨m9, em9, gc31⟩ := rq_bv gc31
          refine rx_pf (m2 := m9) (pc2 := 58) op107_55 sp_0 rfl em9 rfl ?_
          cases gc31
          exact c31 _ _
        · have gc31 := (if_neg b4).symm.trans gc31
          cases gc31
          exact c31 _ _
    · have h := (if_neg b2).symm.trans h
      refine rx_ic (v := (-1)) (pc2 := 12) op107_11 (by decide) rfl ?_
      obtain ⟨rfl, rfl⟩ := rq_ret h
      exact ry_ri op107_12 ms_107 rfl
