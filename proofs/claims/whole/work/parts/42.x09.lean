/-! mo_turned -/
theorem op195_0 : rn_op 195 0 = some (.aload_n 0, 1, 0, 0, 0) := by decide +kernel
theorem op195_1 : rn_op 195 1 = some (.getfield 7, 3, 11, 0, 3) := by decide +kernel
theorem op195_4 : rn_op 195 4 = some (.bipush 9, 2, 0, 0, 0) := by decide +kernel
theorem op195_6 : rn_op 195 6 = some (.iaload, 1, 0, 0, 0) := by decide +kernel
theorem op195_7 : rn_op 195 7 = some (.ifCond .ne 6, 3, 0, 0, 0) := by decide +kernel
theorem op195_10 : rn_op 195 10 = some (.bipush (-2), 2, 0, 0, 0) := by decide +kernel
theorem op195_12 : rn_op 195 12 = some (.ireturn, 1, 0, 0, 0) := by decide +kernel
theorem op195_13 : rn_op 195 13 = some (.aload_n 0, 1, 0, 0, 0) := by decide +kernel
theorem op195_14 : rn_op 195 14 = some (.invokevirtual 268, 3, 173, 1, 11) := by decide +kernel
theorem op195_17 : rn_op 195 17 = some (.iconst 0, 1, 0, 0, 0) := by decide +kernel
theorem op195_18 : rn_op 195 18 = some (.istore_n 1, 1, 0, 0, 0) := by decide +kernel
theorem op195_19 : rn_op 195 19 = some (.iconst 0, 1, 0, 0, 0) := by decide +kernel
theorem op195_20 : rn_op 195 20 = some (.istore_n 2, 1, 0, 0, 0) := by decide +kernel
theorem op195_21 : rn_op 195 21 = some (.iload_n 2, 1, 0, 0, 0) := by decide +kernel
theorem op195_22 : rn_op 195 22 = some (.aload_n 0, 1, 0, 0, 0) := by decide +kernel
theorem op195_23 : rn_op 195 23 = some (.getfield 7, 3, 11, 0, 3) := by decide +kernel
theorem op195_26 : rn_op 195 26 = some (.iconst 1, 1, 0, 0, 0) := by decide +kernel
theorem op195_27 : rn_op 195 27 = some (.iaload, 1, 0, 0, 0) := by decide +kernel
theorem op195_28 : rn_op 195 28 = some (.if_icmp .ge 31, 3, 0, 0, 0) := by decide +kernel
theorem op195_31 : rn_op 195 31 = some (.aload_n 0, 1, 0, 0, 0) := by decide +kernel
theorem op195_32 : rn_op 195 32 = some (.iload_n 2, 1, 0, 0, 0) := by decide +kernel
theorem op195_33 : rn_op 195 33 = some (.putfield 200, 3, 11, 7, 0) := by decide +kernel
theorem op195_36 : rn_op 195 36 = some (.iload_n 1, 1, 0, 0, 0) := by decide +kernel
theorem op195_37 : rn_op 195 37 = some (.aload_n 0, 1, 0, 0, 0) := by decide +kernel
theorem op195_38 : rn_op 195 38 = some (.invokevirtual 280, 3, 194, 1, 11) := by decide +kernel
theorem op195_41 : rn_op 195 41 = some (.ifCond .eq 9, 3, 0, 0, 0) := by decide +kernel
theorem op195_44 : rn_op 195 44 = some (.iconst 1, 1, 0, 0, 0) := by decide +kernel
theorem op195_45 : rn_op 195 45 = some (.iload_n 2, 1, 0, 0, 0) := by decide +kernel
theorem op195_46 : rn_op 195 46 = some (.ishl, 1, 0, 0, 0) := by decide +kernel
theorem op195_47 : rn_op 195 47 = some (.goto 4, 3, 0, 0, 0) := by decide +kernel
theorem op195_50 : rn_op 195 50 = some (.iconst 0, 1, 0, 0, 0) := by decide +kernel
theorem op195_51 : rn_op 195 51 = some (.ior, 1, 0, 0, 0) := by decide +kernel
theorem op195_52 : rn_op 195 52 = some (.istore_n 1, 1, 0, 0, 0) := by decide +kernel
theorem op195_53 : rn_op 195 53 = some (.iinc 2 1, 3, 0, 0, 0) := by decide +kernel
theorem op195_56 : rn_op 195 56 = some (.goto (-35), 3, 0, 0, 0) := by decide +kernel
theorem op195_59 : rn_op 195 59 = some (.iload_n 1, 1, 0, 0, 0) := by decide +kernel
theorem op195_60 : rn_op 195 60 = some (.ireturn, 1, 0, 0, 0) := by decide +kernel
def mo_turned_l21  : Nat → Int32 → Int32 → rn_Mem → Option (Int32 × rn_Mem)
  | 0, _, _, _ => none
  | n + 1, a1, a2, m =>
    if a2 < (m.1 116 1) then
      (some (rm_i m 115 7 a2)).bind fun (m5 : rn_Mem) =>
      (mo_isPlay n m5).bind fun (r7, m6) =>
      (show Option (Int32) from
        if r7 = 0 then
          some (0)
        else
          some ((1 : Int32) <<< (a2 &&& 31))).bind fun x11 =>
      (some (a1 ||| x11)).bind fun (x12 : Int32) =>
      (some (a2 + 1)).bind fun (x13 : Int32) =>
      mo_turned_l21 n x12 x13 m6
    else
      some (a1, m)
def mo_turned (n : Nat)  (m : rn_Mem) : Option (Int32 × rn_Mem) :=
  if (m.1 116 9) = 0 then
    some ((-2), m)
  else
    (mo_askAll n m).bind fun m2 =>
    (mo_turned_l21 n 0 0 m2).bind fun (x17, m15) =>
    some (x17, m15)
set_option maxHeartbeats 4000000 in
set_option maxRecDepth 20000 in
theorem mo_turned_l21_ok (xs : List Int32) {d : Nat} (hd : 8 ≤ d + 1) {r : Option Value} {τ : rn_H} {out : Int32 × rn_Mem} (hr : ∀ (z1 : Int32) (mO : rn_Mem), out = (z1, mO) → ∀ (o0 o2 : Option Value), rn_R xs (d + 1) 195 59 [o0, some (.int z1), o2] [] (rn_SH, mO) r τ) : ∀ (n : Nat) (a1 : Int32) (a2 : Int32) (m : rn_Mem), mo_turned_l21 n a1 a2 m = some out → rn_R xs (d + 1) 195 21 [some (.ref 115), some (.int a1), some (.int a2)] [] (rn_SH, m) r τ := by
  intro n
  induction n with
  | zero =>
    intro _ _ _ h
    cases h
  | succ n ih =>
    intro a1 a2 m h
    unfold mo_turned_l21 at h
    try dsimp only at h
    refine rx_p (L2 := [some (.ref 115), some (.int a1), some (.int a2)]) (S2 := [.int a2]) (pc2 := 22) op195_21 rfl rfl ?_
    refine rx_p (L2 := [some (.ref 115), some (.int a1), some (.int a2)]) (S2 := [.ref 115, .int a2]) (pc2 := 23) op195_22 rfl rfl ?_
    refine rx_gf (v := .ref 116) (pc2 := 26) op195_23 sp_115 rfl rfl rfl ?_
    refine rx_ic (v := 1) (pc2 := 27) op195_26 (by decide) rfl ?_
    refine rx_ia (j := 1) (pc2 := 28) op195_27 (rn_shlt sp_116) sp_116 (by decide) (by decide) rfl ?_
    refine ry_ic_ge (tgt := 59) (pc2 := 31) op195_28 (by decide) (by decide) rfl (fun b4 => ?_) (fun b4 => ?_)
    · have h := (if_pos b4).symm.trans h
      refine rx_p (L2 := [some (.ref 115), some (.int a1), some (.int a2)]) (S2 := [.ref 115]) (pc2 := 32) op195_31 rfl rfl ?_
      refine rx_p (L2 := [some (.ref 115), some (.int a1), some (.int a2)]) (S2 := [.int a2, .ref 115]) (pc2 := 33) op195_32 rfl rfl ?_
      obtain ⟨m5, em5, h⟩ := rq_bv h
      refine rx_pf (m2 := m5) (pc2 := 36) op195_33 sp_115 rfl em5 rfl ?_
      refine rx_p (L2 := [some (.ref 115), some (.int a1), some (.int a2)]) (S2 := [.int a1]) (pc2 := 37) op195_36 rfl rfl ?_
      refine rx_p (L2 := [some (.ref 115), some (.int a1), some (.int a2)]) (S2 := [.ref 115, .int a1]) (pc2 := 38) op195_37 rfl rfl ?_
      obtain ⟨⟨r7, m6⟩, f8, h⟩ := rq_bind h
      try dsimp only at h
      refine ry_iv (p := 115) (vs := []) (T := [.int a1]) (pc2 := 41) op195_38 ms_194 (by decide) rfl rfl (Nat.le_of_ble_eq_true rfl) (Nat.le_of_ble_eq_true rfl) sp_115 (mo_isPlay_ok xs (by omega)  f8) rfl ?_
      show rn_R _ _ _ _ _ [.int r7, .int a1] _ _ _
      obtain ⟨x11, gc14, h⟩ := rq_bind h
      try dsimp only at h
      have c14 : ∀ (o10 : Option Value), rn_R xs (d + 1) 195 51 [some (.ref 115), o10, some (.int a2)] [.int x11, .int a1] (rn_SH, m6) r τ := by
        intro o10
        refine rx_p (L2 := [some (.ref 115), o10, some (.int a2)]) (S2 := [.int (a1 ||| x11)]) (pc2 := 52) op195_51 rfl rfl ?_
        obtain ⟨x12, ex12, h⟩ := rq_bv h
        refine rx_s (v := x12) (L2 := [some (.ref 115), some (.int x12), some (.int a2)]) (pc2 := 53) op195_52 ex12 rfl rfl ?_
        obtain ⟨x13, ex13, h⟩ := rq_bv h
        refine rx_inc (w := 1) (v := x13) (L2 := [some (.ref 115), some (.int x12), some (.int x13)]) (pc2 := 56) op195_53 rfl (by decide) ex13 rfl rfl ?_
        refine ry_go (tgt := 21) op195_56 (by decide) (by decide) ?_
        exact ih _ _ _ h
      refine ry_if_eq (tgt := 50) (pc2 := 44) op195_41 (by decide) (by decide) rfl (fun b9 => ?_) (fun b9 => ?_)
      · have gc14 := (if_pos b9).symm.trans gc14
        refine rx_ic (v := 0) (pc2 := 51) op195_50 (by decide) rfl ?_
        cases gc14
        exact c14 _
      · have gc14 := (if_neg b9).symm.trans gc14
        refine rx_ic (v := 1) (pc2 := 45) op195_44 (by decide) rfl ?_
        refine rx_p (L2 := [some (.ref 115), some (.int a1), some (.int a2)]) (S2 := [.int a2, .int 1, .int a1]) (pc2 := 46) op195_45 rfl rfl ?_
        refine rx_p (L2 := [some (.ref 115), some (.int a1), some (.int a2)]) (S2 := [.int ((1 : Int32) <<< (a2 &&& 31)), .int a1]) (pc2 := 47) op195_46 rfl rfl ?_
        refine ry_go (tgt := 51) op195_47 (by decide) (by decide) ?_
        cases gc14
        exact c14 _
    · have h := (if_neg b4).symm.trans h
      cases h
      exact hr _ _ rfl _ _
set_option maxHeartbeats 4000000 in
set_option maxRecDepth 20000 in
theorem mo_turned_ok (xs : List Int32) {d : Nat} (hd : 8 ≤ d) {n : Nat} {m mO : rn_Mem} {rO : Int32} (h : mo_turned n  m = some (rO, mO)) : rn_R xs d 195 0 (rn_ent 3 [.ref 115]) [] (rn_SH, m) (some (.int rO)) (rn_SH, mO) := by
  obtain ⟨d, rfl⟩ : ∃ e, d = e + 1 := ⟨d - 1, by omega⟩
  unfold mo_turned at h
  show rn_R xs (d + 1) 195 0 [some (.ref 115), none, none] [] (rn_SH, m) (some (.int rO)) (rn_SH, mO)
  refine rx_p (L2 := [some (.ref 115), none, none]) (S2 := [.ref 115]) (pc2 := 1) op195_0 rfl rfl ?_
  refine rx_gf (v := .ref 116) (pc2 := 4) op195_1 sp_115 rfl rfl rfl ?_
  refine rx_bp (v := 9) (pc2 := 6) op195_4 (by decide) rfl ?_
  refine rx_ia (j := 9) (pc2 := 7) op195_6 (rn_shlt sp_116) sp_116 (by decide) (by decide) rfl ?_
  refine ry_if_ne (tgt := 13) (pc2 := 10) op195_7 (by decide) (by decide) rfl (fun b1 => ?_) (fun b1 => ?_)
  · have h := (if_pos b1).symm.trans h
    refine rx_bp (v := (-2)) (pc2 := 12) op195_10 (by decide) rfl ?_
    obtain ⟨rfl, rfl⟩ := rq_ret h
    exact ry_ri op195_12 ms_195 rfl
  · have h := (if_neg b1).symm.trans h
    refine rx_p (L2 := [some (.ref 115), none, none]) (S2 := [.ref 115]) (pc2 := 14) op195_13 rfl rfl ?_
    obtain ⟨m2, f3, h⟩ := rq_bind h
    try dsimp only at h
    refine ry_iv (p := 115) (vs := []) (T := []) (pc2 := 17) op195_14 ms_173 (by decide) rfl rfl (Nat.le_of_ble_eq_true rfl) (Nat.le_of_ble_eq_true rfl) sp_115 (mo_askAll_ok xs (by omega)  f3) rfl ?_
    show rn_R _ _ _ _ _ [] _ _ _
    refine rx_ic (v := 0) (pc2 := 18) op195_17 (by decide) rfl ?_
    refine rx_s (L2 := [some (.ref 115), some (.int 0), none]) (pc2 := 19) op195_18 rfl rfl rfl ?_
    refine rx_ic (v := 0) (pc2 := 20) op195_19 (by decide) rfl ?_
    refine rx_s (L2 := [some (.ref 115), some (.int 0), some (.int 0)]) (pc2 := 21) op195_20 rfl rfl rfl ?_
    obtain ⟨wf19, f19, h⟩ := rq_bind h
    refine mo_turned_l21_ok xs hd (fun x17 m15 eq => ?_) _ _ _ _  f19
    subst eq
    try dsimp only at h
    intro o16 o18
    refine rx_p (L2 := [o16, some (.int x17), o18]) (S2 := [.int x17]) (pc2 := 60) op195_59 rfl rfl ?_
    obtain ⟨rfl, rfl⟩ := rq_ret h
    exact ry_ri op195_60 ms_195 rfl
/-! mo_others -/
theorem op196_0 : rn_op 196 0 = some (.iload_n 1, 1, 0, 0, 0) := by decide +kernel
theorem op196_1 : rn_op 196 1 = some (.i2l, 1, 0, 0, 0) := by decide +kernel
theorem op196_2 : rn_op 196 2 = some (.ldc2_w 178, 3, 18446744073709551615, 0, 0) := by decide +kernel
theorem op196_5 : rn_op 196 5 = some (.ldc2_w 283, 3, 29, 0, 0) := by decide +kernel
theorem op196_8 : rn_op 196 8 = some (.invokestatic 121, 3, 147, 3, 0) := by decide +kernel
theorem op196_11 : rn_op 196 11 = some (.ifCond .ne 5, 3, 0, 0, 0) := by decide +kernel
theorem op196_14 : rn_op 196 14 = some (.iconst (-1), 1, 0, 0, 0) := by decide +kernel
theorem op196_15 : rn_op 196 15 = some (.ireturn, 1, 0, 0, 0) := by decide +kernel
theorem op196_16 : rn_op 196 16 = some (.aload_n 0, 1, 0, 0, 0) := by decide +kernel
theorem op196_17 : rn_op 196 17 = some (.getfield 7, 3, 11, 0, 3) := by decide +kernel
theorem op196_20 : rn_op 196 20 = some (.bipush 9, 2, 0, 0, 0) := by decide +kernel
theorem op196_22 : rn_op 196 22 = some (.iaload, 1, 0, 0, 0) := by decide +kernel
theorem op196_23 : rn_op 196 23 = some (.ifCond .ne 6, 3, 0, 0, 0) := by decide +kernel
theorem op196_26 : rn_op 196 26 = some (.bipush (-2), 2, 0, 0, 0) := by decide +kernel
theorem op196_28 : rn_op 196 28 = some (.ireturn, 1, 0, 0, 0) := by decide +kernel
theorem op196_29 : rn_op 196 29 = some (.aload_n 0, 1, 0, 0, 0) := by decide +kernel
theorem op196_30 : rn_op 196 30 = some (.invokevirtual 268, 3, 173, 1, 11) := by decide +kernel
theorem op196_33 : rn_op 196 33 = some (.iconst 0, 1, 0, 0, 0) := by decide +kernel
theorem op196_34 : rn_op 196 34 = some (.istore_n 2, 1, 0, 0, 0) := by decide +kernel
theorem op196_35 : rn_op 196 35 = some (.iconst 0, 1, 0, 0, 0) := by decide +kernel
theorem op196_36 : rn_op 196 36 = some (.istore_n 3, 1, 0, 0, 0) := by decide +kernel
theorem op196_37 : rn_op 196 37 = some (.iload_n 3, 1, 0, 0, 0) := by decide +kernel
theorem op196_38 : rn_op 196 38 = some (.bipush 30, 2, 0, 0, 0) := by decide +kernel
theorem op196_40 : rn_op 196 40 = some (.if_icmp .ge 63, 3, 0, 0, 0) := by decide +kernel
theorem op196_43 : rn_op 196 43 = some (.aload_n 0, 1, 0, 0, 0) := by decide +kernel
theorem op196_44 : rn_op 196 44 = some (.iload_n 3, 1, 0, 0, 0) := by decide +kernel
theorem op196_45 : rn_op 196 45 = some (.bipush 6, 2, 0, 0, 0) := by decide +kernel
theorem op196_47 : rn_op 196 47 = some (.if_icmp .ge 8, 3, 0, 0, 0) := by decide +kernel
theorem op196_50 : rn_op 196 50 = some (.bipush (-4), 2, 0, 0, 0) := by decide +kernel
theorem op196_52 : rn_op 196 52 = some (.goto 9, 3, 0, 0, 0) := by decide +kernel
theorem op196_55 : rn_op 196 55 = some (.iload_n 3, 1, 0, 0, 0) := by decide +kernel
theorem op196_56 : rn_op 196 56 = some (.bipush 6, 2, 0, 0, 0) := by decide +kernel
theorem op196_58 : rn_op 196 58 = some (.idiv, 1, 0, 0, 0) := by decide +kernel
theorem op196_59 : rn_op 196 59 = some (.iconst 1, 1, 0, 0, 0) := by decide +kernel
theorem op196_60 : rn_op 196 60 = some (.isub, 1, 0, 0, 0) := by decide +kernel
theorem op196_61 : rn_op 196 61 = some (.putfield 203, 3, 11, 8, 0) := by decide +kernel
theorem op196_64 : rn_op 196 64 = some (.aload_n 0, 1, 0, 0, 0) := by decide +kernel
theorem op196_65 : rn_op 196 65 = some (.iload_n 3, 1, 0, 0, 0) := by decide +kernel
theorem op196_66 : rn_op 196 66 = some (.iconst 2, 1, 0, 0, 0) := by decide +kernel
theorem op196_67 : rn_op 196 67 = some (.idiv, 1, 0, 0, 0) := by decide +kernel
theorem op196_68 : rn_op 196 68 = some (.iconst 3, 1, 0, 0, 0) := by decide +kernel
theorem op196_69 : rn_op 196 69 = some (.irem, 1, 0, 0, 0) := by decide +kernel
theorem op196_70 : rn_op 196 70 = some (.putfield 206, 3, 11, 9, 0) := by decide +kernel
theorem op196_73 : rn_op 196 73 = some (.aload_n 0, 1, 0, 0, 0) := by decide +kernel
theorem op196_74 : rn_op 196 74 = some (.iload_n 3, 1, 0, 0, 0) := by decide +kernel
theorem op196_75 : rn_op 196 75 = some (.iconst 2, 1, 0, 0, 0) := by decide +kernel
theorem op196_76 : rn_op 196 76 = some (.irem, 1, 0, 0, 0) := by decide +kernel
theorem op196_77 : rn_op 196 77 = some (.putfield 209, 3, 11, 10, 0) := by decide +kernel
theorem op196_80 : rn_op 196 80 = some (.aload_n 0, 1, 0, 0, 0) := by decide +kernel
theorem op196_81 : rn_op 196 81 = some (.invokevirtual 280, 3, 194, 1, 11) := by decide +kernel
theorem op196_84 : rn_op 196 84 = some (.ifCond .eq 13, 3, 0, 0, 0) := by decide +kernel
theorem op196_87 : rn_op 196 87 = some (.iload_n 2, 1, 0, 0, 0) := by decide +kernel
theorem op196_88 : rn_op 196 88 = some (.iload_n 1, 1, 0, 0, 0) := by decide +kernel
theorem op196_89 : rn_op 196 89 = some (.if_icmp .ne 5, 3, 0, 0, 0) := by decide +kernel
theorem op196_92 : rn_op 196 92 = some (.iload_n 3, 1, 0, 0, 0) := by decide +kernel
theorem op196_93 : rn_op 196 93 = some (.ireturn, 1, 0, 0, 0) := by decide +kernel
theorem op196_94 : rn_op 196 94 = some (.iinc 2 1, 3, 0, 0, 0) := by decide +kernel
theorem op196_97 : rn_op 196 97 = some (.iinc 3 1, 3, 0, 0, 0) := by decide +kernel
theorem op196_100 : rn_op 196 100 = some (.goto (-63), 3, 0, 0, 0) := by decide +kernel
theorem op196_103 : rn_op 196 103 = some (.iload_n 1, 1, 0, 0, 0) := by decide +kernel
theorem op196_104 : rn_op 196 104 = some (.ifCond .ge 7, 3, 0, 0, 0) := by decide +kernel
theorem op196_107 : rn_op 196 107 = some (.iload_n 2, 1, 0, 0, 0) := by decide +kernel
theorem op196_108 : rn_op 196 108 = some (.goto 5, 3, 0, 0, 0) := by decide +kernel
theorem op196_111 : rn_op 196 111 = some (.bipush (-4), 2, 0, 0, 0) := by decide +kernel
theorem op196_113 : rn_op 196 113 = some (.ireturn, 1, 0, 0, 0) := by decide +kernel
def mo_others_l37 (a1 : Int32) : Nat → Int32 → Int32 → rn_Mem → Option ((Int32 × rn_Mem) ⊕ (Int32 × rn_Mem))
  | 0, _, _, _ => none
  | n + 1, a2, a3, m =>
    if a3 < 30 then
      (show Option (Int32) from
        if a3 < 6 then
          some ((-4))
        else
          some ((a3 / 6) - 1)).bind fun x10 =>
      (some (rm_i m 115 8 x10)).bind fun (m11 : rn_Mem) =>
      (some (rm_i m11 115 9 (rn_rem (a3 / 2) 3))).bind fun (m12 : rn_Mem) =>
      (some (rm_i m12 115 10 (rn_rem a3 2))).bind fun (m13 : rn_Mem) =>
      (mo_isPlay n m13).bind fun (r15, m14) =>
      if r15 = 0 then
        (some (a3 + 1)).bind fun (x20 : Int32) =>
        mo_others_l37 a1 n a2 x20 m14
      else
        if a2 = a1 then
          some (.inl (a3, m14))
        else
          (some (a2 + 1)).bind fun (x22 : Int32) =>
          (some (a3 + 1)).bind fun (x23 : Int32) =>
          mo_others_l37 a1 n x22 x23 m14
    else
      some (.inr (a2, m))
def mo_others (n : Nat) (a1 : Int32) (m : rn_Mem) : Option (Int32 × rn_Mem) :=
  (mo_in n (a1.toInt64) (-1) 29 m).bind fun (r2, m1) =>
  if r2 = 0 then
    some ((-1), m1)
  else
    if (m1.1 116 9) = 0 then
      some ((-2), m1)
    else
      (mo_askAll n m1).bind fun m6 =>
      (mo_others_l37 a1 n 0 0 m6).bind fun q => match q with
      | .inl o => some o
      | .inr (x27, m25) =>
      if a1 < 0 then
        some (x27, m25)
      else
        some ((-4), m25)
set_option maxHeartbeats 4000000 in
set_option maxRecDepth 20000 in
theorem mo_others_l37_ok (xs : List Int32) {d : Nat} (hd : 8 ≤ d + 1) {a1 : Int32} {r : Option Value} {τ : rn_H} {out : (Int32 × rn_Mem) ⊕ (Int32 × rn_Mem)} (hl : ∀ (rO : Int32) (mO : rn_Mem), out = .inl (rO, mO) → r = (some (.int rO)) ∧ τ = (rn_SH, mO)) (hr : ∀ (z2 : Int32) (mO : rn_Mem), out = .inr (z2, mO) → ∀ (o0 o3 : Option Value), rn_R xs (d + 1) 196 103 [o0, some (.int a1), some (.int z2), o3] [] (rn_SH, mO) r τ) : ∀ (n : Nat) (a2 : Int32) (a3 : Int32) (m : rn_Mem), mo_others_l37 a1 n a2 a3 m = some out → rn_R xs (d + 1) 196 37 [some (.ref 115), some (.int a1), some (.int a2), some (.int a3)] [] (rn_SH, m) r τ := by
  intro n
  induction n with
  | zero =>
    intro _ _ _ h
    cases h
  | succ n ih =>
    intro a2 a3 m h
    unfold mo_others_l37 at h
    try dsimp only at h
    refine rx_p (L2 := [some (.ref 115), some (.int a1), some (.int a2), some (.int a3)]) (S2 := [.int a3]) (pc2 := 38) op196_37 rfl rfl ?_
    refine rx_bp (v := 30) (pc2 := 40) op196_38 (by decide) rfl ?_
    refine ry_ic_ge (tgt := 103) (pc2 := 43) op196_40 (by decide) (by decide) rfl (fun b8 => ?_) (fun b8 => ?_)
    · have h := (if_pos b8).symm.trans h
      refine rx_p (L2 := [some (.ref 115), some (.int a1), some (.int a2), some (.int a3)]) (S2 := [.ref 115]) (pc2 := 44) op196_43 rfl rfl ?_
      refine rx_p (L2 := [some (.ref 115), some (.int a1), some (.int a2), some (.int a3)]) (S2 := [.int a3, .ref 115]) (pc2 := 45) op196_44 rfl rfl ?_
      refine rx_bp (v := 6) (pc2 := 47) op196_45 (by decide) rfl ?_
      obtain ⟨x10, gc24, h⟩ := rq_bind h
      try dsimp only at h
      have c24 : ∀ (_ : Unit), rn_R xs (d + 1) 196 61 [some (.ref 115), some (.int a1), some (.int a2), some (.int a3)] [.int x10, .ref 115] (rn_SH, m) r τ := by
        intro _
        obtain ⟨m11, em11, h⟩ := rq_bv h
        refine rx_pf (m2 := m11) (pc2 := 64) op196_61 sp_115 rfl em11 rfl ?_
        refine rx_p (L2 := [some (.ref 115), some (.int a1), some (.int a2), some (.int a3)]) (S2 := [.ref 115]) (pc2 := 65) op196_64 rfl rfl ?_
        refine rx_p (L2 := [some (.ref 115), some (.int a1), some (.int a2), some (.int a3)]) (S2 := [.int a3, .ref 115]) (pc2 := 66) op196_65 rfl rfl ?_
        refine rx_ic (v := 2) (pc2 := 67) op196_66 (by decide) rfl ?_
        refine rx_div (v := a3 / 2) (pc2 := 68) op196_67 (by decide) rfl rfl ?_
        refine rx_ic (v := 3) (pc2 := 69) op196_68 (by decide) rfl ?_
        refine rx_rem (v := rn_rem (a3 / 2) 3) (pc2 := 70) op196_69 (by decide) rfl rfl ?_
        obtain ⟨m12, em12, h⟩ := rq_bv h
        refine rx_pf (m2 := m12) (pc2 := 73) op196_70 sp_115 rfl em12 rfl ?_
        refine rx_p (L2 := [some (.ref 115), some (.int a1), some (.int a2), some (.int a3)]) (S2 := [.ref 115]) (pc2 := 74) op196_73 rfl rfl ?_
        refine rx_p (L2 := [some (.ref 115), some (.int a1), some (.int a2), some (.int a3)]) (S2 := [.int a3, .ref 115]) (pc2 := 75) op196_74 rfl rfl ?_
        refine rx_ic (v := 2) (pc2 := 76) op196_75 (by decide) rfl ?_
        refine rx_rem (v := rn_rem a3 2) (pc2 := 77) op196_76 (by decide) rfl rfl ?_
        obtain ⟨m13, em13, h⟩ := rq_bv h
        refine rx_pf (m2 := m13) (pc2 := 80) op196_77 sp_115 rfl em13 rfl ?_
        refine rx_p (L2 := [some (.ref 115), some (.int a1), some (.int a2), some (.int a3)]) (S2 := [.ref 115]) (pc2 := 81) op196_80 rfl rfl ?_
        obtain ⟨⟨r15, m14⟩, f16, h⟩ := rq_bind h
        try dsimp only at h
        refine ry_iv (p := 115) (vs := []) (T := []) (pc2 := 84) op196_81 ms_194 (by decide) rfl rfl (Nat.le_of_ble_eq_true rfl) (Nat.le_of_ble_eq_true rfl) sp_115 (mo_isPlay_ok xs (by omega)  f16) rfl ?_
        show rn_R _ _ _ _ _ [.int r15] _ _ _
        refine ry_if_eq (tgt := 97) (pc2 := 87) op196_84 (by decide) (by decide) rfl (fun b17 => ?_) (fun b17 => ?_)
        · have h := (if_pos b17).symm.trans h
          obtain ⟨x20, ex20, h⟩ := rq_bv h
          refine rx_inc (w := 1) (v := x20) (L2 := [some (.ref 115), some (.int a1), some (.int a2), some (.int x20)]) (pc2 := 100) op196_97 rfl (by decide) ex20 rfl rfl ?_
          refine ry_go (tgt := 37) op196_100 (by decide) (by decide) ?_
          exact ih _ _ _ h
        · have h := (if_neg b17).symm.trans h
          refine rx_p (L2 := [some (.ref 115), some (.int a1), some (.int a2), some (.int a3)]) (S2 := [.int a2]) (pc2 := 88) op196_87 rfl rfl ?_
          refine rx_p (L2 := [some (.ref 115), some (.int a1), some (.int a2), some (.int a3)]) (S2 := [.int a1, .int a2]) (pc2 := 89) op196_88 rfl rfl ?_
          refine ry_ic_ne (tgt := 94) (pc2 := 92) op196_89 (by decide) (by decide) rfl (fun b21 => ?_) (fun b21 => ?_)
          · have h := (if_pos b21).symm.trans h
            refine rx_p (L2 := [some (.ref 115), some (.int a1), some (.int a2), some (.int a3)]) (S2 := [.int a3]) (pc2 := 93) op196_92 rfl rfl ?_
            cases h
            obtain ⟨rfl, rfl⟩ := hl _ _ rfl
            exact ry_ri op196_93 ms_196 rfl
          · have h := (if_neg b21).symm.trans h
            obtain ⟨x22, ex22, h⟩ := rq_bv h
            refine rx_inc (w := 1) (v := x22) (L2 := [some (.ref 115), some (.int a1), some (.int x22), some (.int a3)]) (pc2 := 97) op196_94 rfl (by decide) ex22 rfl rfl ?_
            obtain ⟨x23, ex23, h⟩ := rq_bv h
            refine rx_inc (w := 1) (v := x23) (L2 := [some (.ref 115), some (.int a1), some (.int x22), some (.int x23)]) (pc2 := 100) op196_97 rfl (by decide) ex23 rfl rfl ?_
            refine ry_go (tgt := 37) op196_100 (by decide) (by decide) ?_
            exact ih _ _ _ h
      refine ry_ic_ge (tgt := 55) (pc2 := 50) op196_47 (by decide) (by decide) rfl (fun b9 => ?_) (fun b9 => ?_)
      · have gc24 := (if_pos b9).symm.trans gc24
        refine rx_bp (v := (-4)) (pc2 := 52) op196_50 (by decide) rfl ?_
        refine ry_go (tgt := 61) op196_52 (by decide) (by decide) ?_
        cases gc24
        exact c24 ()
      · have gc24 := (if_neg b9).symm.trans gc24
        refine rx_p (L2 := [some (.ref 115), some (.int a1), some (.int a2), some (.int a3)]) (S2 := [.int a3, .ref 115]) (pc2 := 56) op196_55 rfl rfl ?_
        refine rx_bp (v := 6) (pc2 := 58) op196_56 (by decide) rfl ?_
        refine rx_div (v := a3 / 6) (pc2 := 59) op196_58 (by decide) rfl rfl ?_
        refine rx_ic (v := 1) (pc2 := 60) op196_59 (by decide) rfl ?_
        refine rx_p (L2 := [some (.ref 115), some (.int a1), some (.int a2), some (.int a3)]) (S2 := [.int ((a3 / 6) - 1), .ref 115]) (pc2 := 61) op196_60 rfl rfl ?_
        cases gc24
        exact c24 ()
    · have h := (if_neg b8).symm.trans h
      cases h
      exact hr _ _ rfl _ _
set_option maxHeartbeats 4000000 in
set_option maxRecDepth 20000 in
theorem mo_others_ok (xs : List Int32) {d : Nat} (hd : 8 ≤ d) {n : Nat} {a1 : Int32} {m mO : rn_Mem} {rO : Int32} (h : mo_others n a1 m = some (rO, mO)) : rn_R xs d 196 0 (rn_ent 4 [.ref 115, .int a1]) [] (rn_SH, m) (some (.int rO)) (rn_SH, mO) := by
  obtain ⟨d, rfl⟩ : ∃ e, d = e + 1 := ⟨d - 1, by omega⟩
  unfold mo_others at h
  show rn_R xs (d + 1) 196 0 [some (.ref 115), some (.int a1), none, none] [] (rn_SH, m) (some (.int rO)) (rn_SH, mO)
  refine rx_p (L2 := [some (.ref 115), some (.int a1), none, none]) (S2 := [.int a1]) (pc2 := 1) op196_0 rfl rfl ?_
  refine rx_p (L2 := [some (.ref 115), some (.int a1), none, none]) (S2 := [.long (a1.toInt64)]) (pc2 := 2) op196_1 rfl rfl ?_
  refine rx_ld2 (v := (-1)) (pc2 := 5) op196_2 (by decide) rfl ?_
  refine rx_ld2 (v := 29) (pc2 := 8) op196_5 (by decide) rfl ?_
  obtain ⟨⟨r2, m1⟩, f3, h⟩ := rq_bind h
  try dsimp only at h
  refine ry_is (vs := [.long (a1.toInt64), .long (-1), .long 29]) (T := []) (pc2 := 11) op196_8 (by decide) ms_147 (by decide) rfl rfl (Nat.le_of_ble_eq_true rfl) (Nat.le_of_ble_eq_true rfl) (mo_in_ok xs (by omega)  f3) rfl ?_
  show rn_R _ _ _ _ _ [.int r2] _ _ _
  refine ry_if_ne (tgt := 16) (pc2 := 14) op196_11 (by decide) (by decide) rfl (fun b4 => ?_) (fun b4 => ?_)
  · have h := (if_pos b4).symm.trans h
    refine rx_ic (v := (-1)) (pc2 := 15) op196_14 (by decide) rfl ?_
    obtain ⟨rfl, rfl⟩ := rq_ret h
    exact ry_ri op196_15 ms_196 rfl
  · have h := (if_neg b4).symm.trans h
    refine rx_p (L2 := [some (.ref 115), some (.int a1), none, none]) (S2 := [.ref 115]) (pc2 := 17) op196_16 rfl rfl ?_
    refine rx_gf (v := .ref 116) (pc2 := 20) op196_17 sp_115 rfl rfl rfl ?_
    refine rx_bp (v := 9) (pc2 := 22) op196_20 (by decide) rfl ?_
    refine rx_ia (j := 9) (pc2 := 23) op196_22 (rn_shlt sp_116) sp_116 (by decide) (by decide) rfl ?_
    refine ry_if_ne (tgt := 29) (pc2 := 26) op196_23 (by decide) (by decide) rfl (fun b5 => ?_) (fun b5 => ?_)
    · have h := (if_pos b5).symm.trans h
      refine rx_bp (v := (-2)) (pc2 := 28) op196_26 (by decide) rfl ?_
      obtain ⟨rfl, rfl⟩ := rq_ret h
      exact ry_ri op196_28 ms_196 rfl
    · have h := (if_neg b5).symm.trans h
      refine rx_p (L2 := [some (.ref 115), some (.int a1), none, none]) (S2 := [.ref 115]) (pc2 := 30) op196_29 rfl rfl ?_
      obtain ⟨m6, f7, h⟩ := rq_bind h
      try dsimp only at h
      refine ry_iv (p := 115) (vs := []) (T := []) (pc2 := 33) op196_30 ms_173 (by decide) rfl rfl (Nat.le_of_ble_eq_true rfl) (Nat.le_of_ble_eq_true rfl) sp_115 (mo_askAll_ok xs (by omega)  f7) rfl ?_
      show rn_R _ _ _ _ _ [] _ _ _
      refine rx_ic (v := 0) (pc2 := 34) op196_33 (by decide) rfl ?_
      refine rx_s (L2 := [some (.ref 115), some (.int a1), some (.int 0), none]) (pc2 := 35) op196_34 rfl rfl rfl ?_
      refine rx_ic (v := 0) (pc2 := 36) op196_35 (by decide) rfl ?_
      refine rx_s (L2 := [some (.ref 115), some (.int a1), some (.int 0), some (.int 0)]) (pc2 := 37) op196_36 rfl rfl rfl ?_
      obtain ⟨wf30, f30, h⟩ := rq_bind h
      refine mo_others_l37_ok xs hd (fun v0 m0 eq => ?_) (fun x27 m25 eq => ?_) _ _ _ _  f30
      · subst eq
        try dsimp only at h
        cases h
        exact ⟨rfl, rfl⟩
      · subst eq
        try dsimp only at h
        intro o26 o28
        refine rx_p (L2 := [o26, some (.int a1), some (.int x27), o28]) (S2 := [.int a1]) (pc2 := 104) op196_103 rfl rfl ?_
        refine ry_if_ge (tgt := 111) (pc2 := 107) op196_104 (by decide) (by decide) rfl (fun b29 => ?_) (fun b29 => ?_)
        · have h := (if_pos b29).symm.trans h
          refine rx_p (L2 := [o26, some (.int a1), some (.int x27), o28]) (S2 := [.int x27]) (pc2 := 108) op196_107 rfl rfl ?_
          refine ry_go (tgt := 113) op196_108 (by decide) (by decide) ?_
          obtain ⟨rfl, rfl⟩ := rq_ret h
          exact ry_ri op196_113 ms_196 rfl
        · have h := (if_neg b29).symm.trans h
          refine rx_bp (v := (-4)) (pc2 := 113) op196_111 (by decide) rfl ?_
          obtain ⟨rfl, rfl⟩ := rq_ret h
          exact ry_ri op196_113 ms_196 rfl
/-! mo_isSheet -/
theorem op198_0 : rn_op 198 0 = some (.iload_n 0, 1, 0, 0, 0) := by decide +kernel
theorem op198_1 : rn_op 198 1 = some (.i2l, 1, 0, 0, 0) := by decide +kernel
theorem op198_2 : rn_op 198 2 = some (.lconst 0, 1, 0, 0, 0) := by decide +kernel
theorem op198_3 : rn_op 198 3 = some (.ldc2_w 153, 3, 3, 0, 0) := by decide +kernel
theorem op198_6 : rn_op 198 6 = some (.invokestatic 121, 3, 147, 3, 0) := by decide +kernel
theorem op198_9 : rn_op 198 9 = some (.ifCond .eq 19, 3, 0, 0, 0) := by decide +kernel
theorem op198_12 : rn_op 198 12 = some (.iload_n 1, 1, 0, 0, 0) := by decide +kernel
theorem op198_13 : rn_op 198 13 = some (.i2l, 1, 0, 0, 0) := by decide +kernel
theorem op198_14 : rn_op 198 14 = some (.lconst 0, 1, 0, 0, 0) := by decide +kernel
theorem op198_15 : rn_op 198 15 = some (.ldc2_w 340, 3, 2, 0, 0) := by decide +kernel
theorem op198_18 : rn_op 198 18 = some (.invokestatic 121, 3, 147, 3, 0) := by decide +kernel
theorem op198_21 : rn_op 198 21 = some (.ifCond .eq 7, 3, 0, 0, 0) := by decide +kernel
theorem op198_24 : rn_op 198 24 = some (.iconst 1, 1, 0, 0, 0) := by decide +kernel
theorem op198_25 : rn_op 198 25 = some (.goto 4, 3, 0, 0, 0) := by decide +kernel
theorem op198_28 : rn_op 198 28 = some (.iconst 0, 1, 0, 0, 0) := by decide +kernel
theorem op198_29 : rn_op 198 29 = some (.ireturn, 1, 0, 0, 0) := by decide +kernel
def mo_isSheet (n : Nat) (a0 : Int32) (a1 : Int32) (m : rn_Mem) : Option (Int32 × rn_Mem) :=
  (mo_in n (a0.toInt64) 0 3 m).bind fun (r2, m1) =>
  if r2 = 0 then
    some (0, m1)
  else
    (mo_in n (a1.toInt64) 0 2 m1).bind fun (r6, m5) =>
    if r6 = 0 then
      some (0, m5)
    else
      some (1, m5)
set_option maxHeartbeats 4000000 in
set_option maxRecDepth 20000 in
theorem mo_isSheet_ok (xs : List Int32) {d : Nat} (hd : 1 ≤ d) {n : Nat} {a0 : Int32} {a1 : Int32} {m mO : rn_Mem} {rO : Int32} (h : mo_isSheet n a0 a1 m = some (rO, mO)) : rn_R xs d 198 0 (rn_ent 2 [.int a0, .int a1]) [] (rn_SH, m) (some (.int rO)) (rn_SH, mO) := by
  obtain ⟨d, rfl⟩ : ∃ e, d = e + 1 := ⟨d - 1, by omega⟩
  unfold mo_isSheet at h
  show rn_R xs (d + 1) 198 0 [some (.int a0), some (.int a1)] [] (rn_SH, m) (some (.int rO)) (rn_SH, mO)
  refine rx_p (L2 := [some (.int a0), some (.int a1)]) (S2 := [.int a0]) (pc2 := 1) op198_0 rfl rfl ?_
  refine rx_p (L2 := [some (.int a0), some (.int a1)]) (S2 := [.long (a0.toInt64)]) (pc2 := 2) op198_1 rfl rfl ?_
  refine rx_lc (v := 0) (pc2 := 3) op198_2 (by decide) rfl ?_
  refine rx_ld2 (v := 3) (pc2 := 6) op198_3 (by decide) rfl ?_
  obtain ⟨⟨r2, m1⟩, f3, h⟩ := rq_bind h
  try dsimp only at h
  refine ry_is (vs := [.long (a0.toInt64), .long 0, .long 3]) (T := []) (pc2 := 9) op198_6 (by decide) ms_147 (by decide) rfl rfl (Nat.le_of_ble_eq_true rfl) (Nat.le_of_ble_eq_true rfl) (mo_in_ok xs (by omega)  f3) rfl ?_
  show rn_R _ _ _ _ _ [.int r2] _ _ _
  refine ry_if_eq (tgt := 28) (pc2 := 12) op198_9 (by decide) (by decide) rfl (fun b4 => ?_) (fun b4 => ?_)
  · have h := (if_pos b4).symm.trans h
    refine rx_ic (v := 0) (pc2 := 29) op198_28 (by decide) rfl ?_
    obtain ⟨rfl, rfl⟩ := rq_ret h
    exact ry_rz (x := 0) op198_29 ms_198 rfl (by decide)
  · have h := (if_neg b4).symm.trans h
    refine rx_p (L2 := [some (.int a0), some (.int a1)]) (S2 := [.int a1]) (pc2 := 13) op198_12 rfl rfl ?_
    refine rx_p (L2 := [some (.int a0), some (.int a1)]) (S2 := [.long (a1.toInt64)]) (pc2 := 14) op198_13 rfl rfl ?_
    refine rx_lc (v := 0) (pc2 := 15) op198_14 (by decide) rfl ?_
    refine rx_ld2 (v := 2) (pc2 := 18) op198_15 (by decide) rfl ?_
    obtain ⟨⟨r6, m5⟩, f7, h⟩ := rq_bind h
    try dsimp only at h
    refine ry_is (vs := [.long (a1.toInt64), .long 0, .long 2]) (T := []) (pc2 := 21) op198_18 (by decide) ms_147 (by decide) rfl rfl (Nat.le_of_ble_eq_true rfl) (Nat.le_of_ble_eq_true rfl) (mo_in_ok xs (by omega)  f7) rfl ?_
    show rn_R _ _ _ _ _ [.int r6] _ _ _
    refine ry_if_eq (tgt := 28) (pc2 := 24) op198_21 (by decide) (by decide) rfl (fun b8 => ?_) (fun b8 => ?_)
    · have h := (if_pos b8).symm.trans h
      refine rx_ic (v := 0) (pc2 := 29) op198_28 (by decide) rfl ?_
      obtain ⟨rfl, rfl⟩ := rq_ret h
      exact ry_rz (x := 0) op198_29 ms_198 rfl (by decide)
    · have h := (if_neg b8).symm.trans h
      refine rx_ic (v := 1) (pc2 := 25) op198_24 (by decide) rfl ?_
      refine ry_go (tgt := 29) op198_25 (by decide) (by decide) ?_
      obtain ⟨rfl, rfl⟩ := rq_ret h
      exact ry_rz (x := 1) op198_29 ms_198 rfl (by decide)
/-! mo_lacksRow -/
theorem op199_0 : rn_op 199 0 = some (.aload_n 0, 1, 0, 0, 0) := by decide +kernel
theorem op199_1 : rn_op 199 1 = some (.getfield 112, 3, 11, 48, 3) := by decide +kernel
theorem op199_4 : rn_op 199 4 = some (.iload_n 1, 1, 0, 0, 0) := by decide +kernel
theorem op199_5 : rn_op 199 5 = some (.iaload, 1, 0, 0, 0) := by decide +kernel
theorem op199_6 : rn_op 199 6 = some (.iload_n 2, 1, 0, 0, 0) := by decide +kernel
theorem op199_7 : rn_op 199 7 = some (.if_icmp .eq 20, 3, 0, 0, 0) := by decide +kernel
theorem op199_10 : rn_op 199 10 = some (.aload_n 0, 1, 0, 0, 0) := by decide +kernel
theorem op199_11 : rn_op 199 11 = some (.getfield 112, 3, 11, 48, 3) := by decide +kernel
theorem op199_14 : rn_op 199 14 = some (.iload_n 1, 1, 0, 0, 0) := by decide +kernel
theorem op199_15 : rn_op 199 15 = some (.iaload, 1, 0, 0, 0) := by decide +kernel
theorem op199_16 : rn_op 199 16 = some (.ifCond .ge 8, 3, 0, 0, 0) := by decide +kernel
theorem op199_19 : rn_op 199 19 = some (.bipush (-11), 2, 0, 0, 0) := by decide +kernel
theorem op199_21 : rn_op 199 21 = some (.goto 5, 3, 0, 0, 0) := by decide +kernel
theorem op199_24 : rn_op 199 24 = some (.bipush (-12), 2, 0, 0, 0) := by decide +kernel
theorem op199_26 : rn_op 199 26 = some (.ireturn, 1, 0, 0, 0) := by decide +kernel
theorem op199_27 : rn_op 199 27 = some (.iload_n 3, 1, 0, 0, 0) := by decide +kernel
theorem op199_28 : rn_op 199 28 = some (.i2l, 1, 0, 0, 0) := by decide +kernel
theorem op199_29 : rn_op 199 29 = some (.lconst 0, 1, 0, 0, 0) := by decide +kernel
theorem op199_30 : rn_op 199 30 = some (.aload_n 0, 1, 0, 0, 0) := by decide +kernel
theorem op199_31 : rn_op 199 31 = some (.getfield 115, 3, 11, 49, 3) := by decide +kernel
theorem op199_34 : rn_op 199 34 = some (.iload_n 1, 1, 0, 0, 0) := by decide +kernel
theorem op199_35 : rn_op 199 35 = some (.iaload, 1, 0, 0, 0) := by decide +kernel
theorem op199_36 : rn_op 199 36 = some (.iload 4, 2, 0, 0, 0) := by decide +kernel
theorem op199_38 : rn_op 199 38 = some (.isub, 1, 0, 0, 0) := by decide +kernel
theorem op199_39 : rn_op 199 39 = some (.i2l, 1, 0, 0, 0) := by decide +kernel
theorem op199_40 : rn_op 199 40 = some (.invokestatic 121, 3, 147, 3, 0) := by decide +kernel
theorem op199_43 : rn_op 199 43 = some (.ifCond .eq 7, 3, 0, 0, 0) := by decide +kernel
theorem op199_46 : rn_op 199 46 = some (.iconst 0, 1, 0, 0, 0) := by decide +kernel
theorem op199_47 : rn_op 199 47 = some (.goto 5, 3, 0, 0, 0) := by decide +kernel
theorem op199_50 : rn_op 199 50 = some (.bipush (-13), 2, 0, 0, 0) := by decide +kernel
theorem op199_52 : rn_op 199 52 = some (.ireturn, 1, 0, 0, 0) := by decide +kernel
def mo_lacksRow (n : Nat) (a1 : Int32) (a2 : Int32) (a3 : Int32) (a4 : Int32) (m : rn_Mem) : Option (Int32 × rn_Mem) :=
  if rn_in a1 4 = true then
    if (m.1 150 a1.toNatClampNeg) = a2 then
      if rn_in a1 4 = true then
        (mo_in n (a3.toInt64) 0 (((m.1 151 a1.toNatClampNeg) - a4).toInt64) m).bind fun (r5, m4) =>
        if r5 = 0 then
          some ((-13), m4)
        else
          some (0, m4)
      else none
    else
      if rn_in a1 4 = true then
        if (m.1 150 a1.toNatClampNeg) < 0 then
          some ((-11), m)
        else
          some ((-12), m)
      else none
  else none
set_option maxHeartbeats 4000000 in
set_option maxRecDepth 20000 in
theorem mo_lacksRow_ok (xs : List Int32) {d : Nat} (hd : 1 ≤ d) {n : Nat} {a1 : Int32} {a2 : Int32} {a3 : Int32} {a4 : Int32} {m mO : rn_Mem} {rO : Int32} (h : mo_lacksRow n a1 a2 a3 a4 m = some (rO, mO)) : rn_R xs d 199 0 (rn_ent 5 [.ref 115, .int a1, .int a2, .int a3, .int a4]) [] (rn_SH, m) (some (.int rO)) (rn_SH, mO) := by
  obtain ⟨d, rfl⟩ : ∃ e, d = e + 1 := ⟨d - 1, by omega⟩
  unfold mo_lacksRow at h
  show rn_R xs (d + 1) 199 0 [some (.ref 115), some (.int a1), some (.int a2), some (.int a3), some (.int a4)] [] (rn_SH, m) (some (.int rO)) (rn_SH, mO)
  refine rx_p (L2 := [some (.ref 115), some (.int a1), some (.int a2), some (.int a3), some (.int a4)]) (S2 := [.ref 115]) (pc2 := 1) op199_0 rfl rfl ?_
  refine rx_gf (v := .ref 150) (pc2 := 4) op199_1 sp_115 rfl rfl rfl ?_
  refine rx_p (L2 := [some (.ref 115), some (.int a1), some (.int a2), some (.int a3), some (.int a4)]) (S2 := [.int a1, .ref 150]) (pc2 := 5) op199_4 rfl rfl ?_
  obtain ⟨k1, h⟩ := rq_chk h
  refine rx_ia (pc2 := 6) op199_5 (rn_shlt sp_150) sp_150 k1 rfl rfl ?_
  refine rx_p (L2 := [some (.ref 115), some (.int a1), some (.int a2), some (.int a3), some (.int a4)]) (S2 := [.int a2, .int (m.1 150 a1.toNatClampNeg)]) (pc2 := 7) op199_6 rfl rfl ?_
  refine ry_ic_eq (tgt := 27) (pc2 := 10) op199_7 (by decide) (by decide) rfl (fun b2 => ?_) (fun b2 => ?_)
  · have h := (if_pos b2).symm.trans h
    refine rx_p (L2 := [some (.ref 115), some (.int a1), some (.int a2), some (.int a3), some (.int a4)]) (S2 := [.int a3]) (pc2 := 28) op199_27 rfl rfl ?_
    refine rx_p (L2 := [some (.ref 115), some (.int a1), some (.int a2), some (.int a3), some (.int a4)]) (S2 := [.long (a3.toInt64)]) (pc2 := 29) op199_28 rfl rfl ?_
    refine rx_lc (v := 0) (pc2 := 30) op199_29 (by decide) rfl ?_
    refine rx_p (L2 := [some (.ref 115), some (.int a1), some (.int a2), some (.int a3), some (.int a4)]) (S2 := [.ref 115, .long 0, .long (a3.toInt64)]) (pc2 := 31) op199_30 rfl rfl ?_
    refine rx_gf (v := .ref 151) (pc2 := 34) op199_31 sp_115 rfl rfl rfl ?_
    refine rx_p (L2 := [some (.ref 115), some (.int a1), some (.int a2), some (.int a3), some (.int a4)]) (S2 := [.int a1, .ref 151, .long 0, .long (a3.toInt64)]) (pc2 := 35) op199_34 rfl rfl ?_
    obtain ⟨k3, h⟩ := rq_chk h
    refine rx_ia (pc2 := 36) op199_35 (rn_shlt sp_151) sp_151 k3 rfl rfl ?_
    refine rx_p (L2 := [some (.ref 115), some (.int a1), some (.int a2), some (.int a3), some (.int a4)]) (S2 := [.int a4, .int (m.1 151 a1.toNatClampNeg), .long 0, .long (a3.toInt64)]) (pc2 := 38) op199_36 rfl rfl ?_
    refine rx_p (L2 := [some (.ref 115), some (.int a1), some (.int a2), some (.int a3), some (.int a4)]) (S2 := [.int ((m.1 151 a1.toNatClampNeg) - a4), .long 0, .long (a3.toInt64)]) (pc2 := 39) op199_38 rfl rfl ?_
    refine rx_p (L2 := [some (.ref 115), some (.int a1), some (.int a2), some (.int a3), some (.int a4)]) (S2 := [.long (((m.1 151 a1.toNatClampNeg) - a4).toInt64), .long 0, .long (a3.toInt64)]) (pc2 := 40) op199_39 rfl rfl ?_
    obtain ⟨⟨r5, m4⟩, f6, h⟩ := rq_bind h
    try dsimp only at h
    refine ry_is (vs := [.long (a3.toInt64), .long 0, .long (((m.1 151 a1.toNatClampNeg) - a4).toInt64)]) (T := []) (pc2 := 43) op199_40 (by decide) ms_147 (by decide) rfl rfl (Nat.le_of_ble_eq_true rfl) (Nat.le_of_ble_eq_true rfl) (mo_in_ok xs (by omega)  f6) rfl ?_
    show rn_R _ _ _ _ _ [.int r5] _ _ _
    refine ry_if_eq (tgt := 50) (pc2 := 46) op199_43 (by decide) (by decide) rfl (fun b7 => ?_) (fun b7 => ?_)
    · have h := (if_pos b7).symm.trans h
      refine rx_bp (v := (-13)) (pc2 := 52) op199_50 (by decide) rfl ?_
      obtain ⟨rfl, rfl⟩ := rq_ret h
      exact ry_ri op199_52 ms_199 rfl
    · have h := (if_neg b7).symm.trans h
      refine rx_ic (v := 0) (pc2 := 47) op199_46 (by decide) rfl ?_
      refine ry_go (tgt := 52) op199_47 (by decide) (by decide) ?_
      obtain ⟨rfl, rfl⟩ := rq_ret h
      exact ry_ri op199_52 ms_199 rfl
  · have h := (if_neg b2).symm.trans h
    refine rx_p (L2 := [some (.ref 115), some (.int a1), some (.int a2), some (.int a3), some (.int a4)]) (S2 := [.ref 115]) (pc2 := 11) op199_10 rfl rfl ?_
    refine rx_gf (v := .ref 150) (pc2 := 14) op199_11 sp_115 rfl rfl rfl ?_
    refine rx_p (L2 := [some (.ref 115), some (.int a1), some (.int a2), some (.int a3), some (.int a4)]) (S2 := [.int a1, .ref 150]) (pc2 := 15) op199_14 rfl rfl ?_
    obtain ⟨k8, h⟩ := rq_chk h
    refine rx_ia (pc2 := 16) op199_15 (rn_shlt sp_150) sp_150 k8 rfl rfl ?_
    refine ry_if_ge (tgt := 24) (pc2 := 19) op199_16 (by decide) (by decide) rfl (fun b9 => ?_) (fun b9 => ?_)
    · have h := (if_pos b9).symm.trans h
      refine rx_bp (v := (-11)) (pc2 := 21) op199_19 (by decide) rfl ?_
      refine ry_go (tgt := 26) op199_21 (by decide) (by decide) ?_
      obtain ⟨rfl, rfl⟩ := rq_ret h
      exact ry_ri op199_26 ms_199 rfl
    · have h := (if_neg b9).symm.trans h
      refine rx_bp (v := (-12)) (pc2 := 26) op199_24 (by decide) rfl ?_
      obtain ⟨rfl, rfl⟩ := rq_ret h
      exact ry_ri op199_26 ms_199 rfl
/-! mo_playerAt -/
theorem op200_0 : rn_op 200 0 = some (.aload_n 0, 1, 0, 0, 0) := by decide +kernel
theorem op200_1 : rn_op 200 1 = some (.getfield 79, 3, 11, 36, 3) := by decide +kernel
theorem op200_4 : rn_op 200 4 = some (.iload_n 1, 1, 0, 0, 0) := by decide +kernel
theorem op200_5 : rn_op 200 5 = some (.aload_n 0, 1, 0, 0, 0) := by decide +kernel
theorem op200_6 : rn_op 200 6 = some (.getfield 7, 3, 11, 0, 3) := by decide +kernel
theorem op200_9 : rn_op 200 9 = some (.iconst 1, 1, 0, 0, 0) := by decide +kernel
theorem op200_10 : rn_op 200 10 = some (.iaload, 1, 0, 0, 0) := by decide +kernel
theorem op200_11 : rn_op 200 11 = some (.idiv, 1, 0, 0, 0) := by decide +kernel
theorem op200_12 : rn_op 200 12 = some (.iaload, 1, 0, 0, 0) := by decide +kernel
theorem op200_13 : rn_op 200 13 = some (.iload_n 1, 1, 0, 0, 0) := by decide +kernel
theorem op200_14 : rn_op 200 14 = some (.aload_n 0, 1, 0, 0, 0) := by decide +kernel
theorem op200_15 : rn_op 200 15 = some (.getfield 7, 3, 11, 0, 3) := by decide +kernel
theorem op200_18 : rn_op 200 18 = some (.iconst 1, 1, 0, 0, 0) := by decide +kernel
theorem op200_19 : rn_op 200 19 = some (.iaload, 1, 0, 0, 0) := by decide +kernel
theorem op200_20 : rn_op 200 20 = some (.irem, 1, 0, 0, 0) := by decide +kernel
theorem op200_21 : rn_op 200 21 = some (.iadd, 1, 0, 0, 0) := by decide +kernel
theorem op200_22 : rn_op 200 22 = some (.aload_n 0, 1, 0, 0, 0) := by decide +kernel
theorem op200_23 : rn_op 200 23 = some (.getfield 7, 3, 11, 0, 3) := by decide +kernel
theorem op200_26 : rn_op 200 26 = some (.iconst 1, 1, 0, 0, 0) := by decide +kernel
theorem op200_27 : rn_op 200 27 = some (.iaload, 1, 0, 0, 0) := by decide +kernel
theorem op200_28 : rn_op 200 28 = some (.irem, 1, 0, 0, 0) := by decide +kernel
theorem op200_29 : rn_op 200 29 = some (.ireturn, 1, 0, 0, 0) := by decide +kernel
def mo_playerAt (n : Nat) (a1 : Int32) (m : rn_Mem) : Option (Int32 × rn_Mem) :=
  if ¬ (m.1 116 1) = 0 then
    if rn_in (a1 / (m.1 116 1)) 5 = true then
      if ¬ (m.1 116 1) = 0 then
        if ¬ (m.1 116 1) = 0 then
          some (rn_rem ((m.1 139 (a1 / (m.1 116 1)).toNatClampNeg) + (rn_rem a1 (m.1 116 1))) (m.1 116 1), m)
        else none
      else none
    else none
  else none
set_option maxHeartbeats 4000000 in
set_option maxRecDepth 20000 in
theorem mo_playerAt_ok (xs : List Int32) {d : Nat} (hd : 0 ≤ d) {n : Nat} {a1 : Int32} {m mO : rn_Mem} {rO : Int32} (h : mo_playerAt n a1 m = some (rO, mO)) : rn_R xs d 200 0 (rn_ent 2 [.ref 115, .int a1]) [] (rn_SH, m) (some (.int rO)) (rn_SH, mO) := by
  unfold mo_playerAt at h
  show rn_R xs d 200 0 [some (.ref 115), some (.int a1)] [] (rn_SH, m) (some (.int rO)) (rn_SH, mO)
  refine rx_p (L2 := [some (.ref 115), some (.int a1)]) (S2 := [.ref 115]) (pc2 := 1) op200_0 rfl rfl ?_
  refine rx_gf (v := .ref 139) (pc2 := 4) op200_1 sp_115 rfl rfl rfl ?_
  refine rx_p (L2 := [some (.ref 115), some (.int a1)]) (S2 := [.int a1, .ref 139]) (pc2 := 5) op200_4 rfl rfl ?_
  refine rx_p (L2 := [some (.ref 115), some (.int a1)]) (S2 := [.ref 115, .int a1, .ref 139]) (pc2 := 6) op200_5 rfl rfl ?_
  refine rx_gf (v := .ref 116) (pc2 := 9) op200_6 sp_115 rfl rfl rfl ?_
  refine rx_ic (v := 1) (pc2 := 10) op200_9 (by decide) rfl ?_
  refine rx_ia (j := 1) (pc2 := 11) op200_10 (rn_shlt sp_116) sp_116 (by decide) (by decide) rfl ?_
  obtain ⟨k1, h⟩ := rq_chk h
  refine rx_div (v := a1 / (m.1 116 1)) (pc2 := 12) op200_11 k1 rfl rfl ?_
  obtain ⟨k2, h⟩ := rq_chk h
  refine rx_ia (pc2 := 13) op200_12 (rn_shlt sp_139) sp_139 k2 rfl rfl ?_
  refine rx_p (L2 := [some (.ref 115), some (.int a1)]) (S2 := [.int a1, .int (m.1 139 (a1 / (m.1 116 1)).toNatClampNeg)]) (pc2 := 14) op200_13 rfl rfl ?_
  refine rx_p (L2 := [some (.ref 115), some (.int a1)]) (S2 := [.ref 115, .int a1, .int (m.1 139 (a1 / (m.1 116 1)).toNatClampNeg)]) (pc2 := 15) op200_14 rfl rfl ?_
  refine rx_gf (v := .ref 116) (pc2 := 18) op200_15 sp_115 rfl rfl rfl ?_
  refine rx_ic (v := 1) (pc2 := 19) op200_18 (by decide) rfl ?_
  refine rx_ia (j := 1) (pc2 := 20) op200_19 (rn_shlt sp_116) sp_116 (by decide) (by decide) rfl ?_
  obtain ⟨k3, h⟩ := rq_chk h
  refine rx_rem (v := rn_rem a1 (m.1 116 1)) (pc2 := 21) op200_20 k3 rfl rfl ?_
  refine rx_p (L2 := [some (.ref 115), some (.int a1)]) (S2 := [.int ((m.1 139 (a1 / (m.1 116 1)).toNatClampNeg) + (rn_rem a1 (m.1 116 1)))]) (pc2 := 22) op200_21 rfl rfl ?_
  refine rx_p (L2 := [some (.ref 115), some (.int a1)]) (S2 := [.ref 115, .int ((m.1 139 (a1 / (m.1 116 1)).toNatClampNeg) + (rn_rem a1 (m.1 116 1)))]) (pc2 := 23) op200_22 rfl rfl ?_
  refine rx_gf (v := .ref 116) (pc2 := 26) op200_23 sp_115 rfl rfl rfl ?_
  refine rx_ic (v := 1) (pc2 := 27) op200_26 (by decide) rfl ?_
  refine rx_ia (j := 1) (pc2 := 28) op200_27 (rn_shlt sp_116) sp_116 (by decide) (by decide) rfl ?_
  obtain ⟨k4, h⟩ := rq_chk h
  refine rx_rem (v := rn_rem ((m.1 139 (a1 / (m.1 116 1)).toNatClampNeg) + (rn_rem a1 (m.1 116 1))) (m.1 116 1)) (pc2 := 29) op200_28 k4 rfl rfl ?_
  obtain ⟨rfl, rfl⟩ := rq_ret h
  exact ry_ri op200_29 ms_200 rfl
/-! mo_handAt -/
theorem op201_0 : rn_op 201 0 = some (.iconst 0, 1, 0, 0, 0) := by decide +kernel
theorem op201_1 : rn_op 201 1 = some (.istore 4, 2, 0, 0, 0) := by decide +kernel
theorem op201_3 : rn_op 201 3 = some (.iload_n 3, 1, 0, 0, 0) := by decide +kernel
theorem op201_4 : rn_op 201 4 = some (.istore 5, 2, 0, 0, 0) := by decide +kernel
theorem op201_6 : rn_op 201 6 = some (.iload 5, 2, 0, 0, 0) := by decide +kernel
theorem op201_8 : rn_op 201 8 = some (.aload_n 0, 1, 0, 0, 0) := by decide +kernel
theorem op201_9 : rn_op 201 9 = some (.invokevirtual 167, 3, 155, 1, 11) := by decide +kernel
theorem op201_12 : rn_op 201 12 = some (.if_icmp .ge 34, 3, 0, 0, 0) := by decide +kernel
theorem op201_15 : rn_op 201 15 = some (.iload 4, 2, 0, 0, 0) := by decide +kernel
theorem op201_17 : rn_op 201 17 = some (.aload_n 0, 1, 0, 0, 0) := by decide +kernel
theorem op201_18 : rn_op 201 18 = some (.iload 5, 2, 0, 0, 0) := by decide +kernel
theorem op201_20 : rn_op 201 20 = some (.invokevirtual 285, 3, 200, 2, 11) := by decide +kernel
theorem op201_23 : rn_op 201 23 = some (.iload_n 2, 1, 0, 0, 0) := by decide +kernel
theorem op201_24 : rn_op 201 24 = some (.if_icmp .ne 12, 3, 0, 0, 0) := by decide +kernel
theorem op201_27 : rn_op 201 27 = some (.iconst 1, 1, 0, 0, 0) := by decide +kernel
theorem op201_28 : rn_op 201 28 = some (.aload_n 1, 1, 0, 0, 0) := by decide +kernel
theorem op201_29 : rn_op 201 29 = some (.iload 5, 2, 0, 0, 0) := by decide +kernel
theorem op201_31 : rn_op 201 31 = some (.iaload, 1, 0, 0, 0) := by decide +kernel
theorem op201_32 : rn_op 201 32 = some (.ishl, 1, 0, 0, 0) := by decide +kernel
theorem op201_33 : rn_op 201 33 = some (.goto 4, 3, 0, 0, 0) := by decide +kernel
theorem op201_36 : rn_op 201 36 = some (.iconst 0, 1, 0, 0, 0) := by decide +kernel
theorem op201_37 : rn_op 201 37 = some (.ior, 1, 0, 0, 0) := by decide +kernel
theorem op201_38 : rn_op 201 38 = some (.istore 4, 2, 0, 0, 0) := by decide +kernel
theorem op201_40 : rn_op 201 40 = some (.iinc 5 1, 3, 0, 0, 0) := by decide +kernel
theorem op201_43 : rn_op 201 43 = some (.goto (-37), 3, 0, 0, 0) := by decide +kernel
theorem op201_46 : rn_op 201 46 = some (.iload 4, 2, 0, 0, 0) := by decide +kernel
theorem op201_48 : rn_op 201 48 = some (.ireturn, 1, 0, 0, 0) := by decide +kernel
def mo_handAt_l6 (q1 : Nat) (a2 : Int32) : Nat → Int32 → Int32 → rn_Mem → Option (Int32 × rn_Mem)
  | 0, _, _, _ => none
  | n + 1, a4, a5, m =>
    (mo_size n m).bind fun (r2, m1) =>
    if a5 < r2 then
      (mo_playerAt n a5 m1).bind fun (r6, m5) =>
      (show Option (Int32) from
        if r6 = a2 then
          if rn_in a5 (rn_al q1) = true then
            some ((1 : Int32) <<< ((m5.1 q1 a5.toNatClampNeg) &&& 31))
          else none
        else
          some (0)).bind fun x12 =>
      (some (a4 ||| x12)).bind fun (x14 : Int32) =>
      (some (a5 + 1)).bind fun (x15 : Int32) =>
      mo_handAt_l6 q1 a2 n x14 x15 m5
    else
      some (a4, m1)
def mo_handAt (n : Nat) (q1 : Nat) (a2 : Int32) (a3 : Int32) (m : rn_Mem) : Option (Int32 × rn_Mem) :=
  (mo_handAt_l6 q1 a2 n 0 a3 m).bind fun (x22, m17) =>
  some (x22, m17)
set_option maxHeartbeats 4000000 in
set_option maxRecDepth 20000 in
theorem mo_handAt_l6_ok (xs : List Int32) {d : Nat} (hd : 1 ≤ d + 1) {q1 : Nat} {a2 : Int32} {r : Option Value} {τ : rn_H} {out : Int32 × rn_Mem} (hr : ∀ (z4 : Int32) (mO : rn_Mem), out = (z4, mO) → ∀ (o0 o1 o2 o3 o5 : Option Value), rn_R xs (d + 1) 201 46 [o0, o1, o2, o3, some (.int z4), o5] [] (rn_SH, mO) r τ) : ∀ (n : Nat) (a4 : Int32) (a5 : Int32) (o3 : Option Value) (m : rn_Mem), sA_arr q1 → mo_handAt_l6 q1 a2 n a4 a5 m = some out → rn_R xs (d + 1) 201 6 [some (.ref 115), some (.ref q1), some (.int a2), o3, some (.int a4), some (.int a5)] [] (rn_SH, m) r τ := by
  intro n
  induction n with
  | zero =>
    intro _ _ _ _ _ h
    cases h
  | succ n ih =>
    intro a4 a5 o3 m hq1 h
    unfold mo_handAt_l6 at h
    try dsimp only at h
    refine rx_p (L2 := [some (.ref 115), some (.ref q1), some (.int a2), o3, some (.int a4), some (.int a5)]) (S2 := [.int a5]) (pc2 := 8) op201_6 rfl rfl ?_
    refine rx_p (L2 := [some (.ref 115), some (.ref q1), some (.int a2), o3, some (.int a4), some (.int a5)]) (S2 := [.ref 115, .int a5]) (pc2 := 9) op201_8 rfl rfl ?_
    obtain ⟨⟨r2, m1⟩, f3, h⟩ := rq_bind h
    try dsimp only at h
    refine ry_iv (p := 115) (vs := []) (T := [.int a5]) (pc2 := 12) op201_9 ms_155 (by decide) rfl rfl (Nat.le_of_ble_eq_true rfl) (Nat.le_of_ble_eq_true rfl) sp_115 (mo_size_ok xs (by omega)  f3) rfl ?_
    show rn_R _ _ _ _ _ [.int r2, .int a5] _ _ _
    refine ry_ic_ge (tgt := 46) (pc2 := 15) op201_12 (by decide) (by decide) rfl (fun b4 => ?_) (fun b4 => ?_)
    · have h := (if_pos b4).symm.trans h
      refine rx_p (L2 := [some (.ref 115), some (.ref q1), some (.int a2), o3, some (.int a4), some (.int a5)]) (S2 := [.int a4]) (pc2 := 17) op201_15 rfl rfl ?_
      refine rx_p (L2 := [some (.ref 115), some (.ref q1), some (.int a2), o3, some (.int a4), some (.int a5)]) (S2 := [.ref 115, .int a4]) (pc2 := 18) op201_17 rfl rfl ?_
      refine rx_p (L2 := [some (.ref 115), some (.ref q1), some (.int a2), o3, some (.int a4), some (.int a5)]) (S2 := [.int a5, .ref 115, .int a4]) (pc2 := 20) op201_18 rfl rfl ?_
      obtain ⟨⟨r6, m5⟩, f7, h⟩ := rq_bind h
      try dsimp only at h
      refine ry_iv (p := 115) (vs := [.int a5]) (T := [.int a4]) (pc2 := 23) op201_20 ms_200 (by decide) rfl rfl (Nat.le_of_ble_eq_true rfl) (Nat.le_of_ble_eq_true rfl) sp_115 (mo_playerAt_ok xs (by omega)  f7) rfl ?_
      show rn_R _ _ _ _ _ [.int r6, .int a4] _ _ _
      refine rx_p (L2 := [some (.ref 115), some (.ref q1), some (.int a2), o3, some (.int a4), some (.int a5)]) (S2 := [.int a2, .int r6, .int a4]) (pc2 := 24) op201_23 rfl rfl ?_
      obtain ⟨x12, gc16, h⟩ := rq_bind h
      try dsimp only at h
      have c16 : ∀ (o10 o11 : Option Value), rn_R xs (d + 1) 201 37 [some (.ref 115), some (.ref q1), some (.int a2), o10, o11, some (.int a5)] [.int x12, .int a4] (rn_SH, m5) r τ := by
        intro o10 o11
        refine rx_p (L2 := [some (.ref 115), some (.ref q1), some (.int a2), o10, o11, some (.int a5)]) (S2 := [.int (a4 ||| x12)]) (pc2 := 38) op201_37 rfl rfl ?_
        obtain ⟨x14, ex14, h⟩ := rq_bv h
        refine rx_sd (v := x14) (j := 3) (pc2 := 40) op201_38 rfl ex14 (Nat.le_of_ble_eq_true rfl) rfl (fun o13 => ?_)
        show rn_R _ _ _ _ [some (.ref 115), some (.ref q1), some (.int a2), o13, some (.int x14), some (.int a5)] _ _ _ _
        obtain ⟨x15, ex15, h⟩ := rq_bv h
        refine rx_inc (w := 1) (v := x15) (L2 := [some (.ref 115), some (.ref q1), some (.int a2), o13, some (.int x14), some (.int x15)]) (pc2 := 43) op201_40 rfl (by decide) ex15 rfl rfl ?_
        refine ry_go (tgt := 6) op201_43 (by decide) (by decide) ?_
        exact ih _ _ _ _ hq1 h
      refine ry_ic_ne (tgt := 36) (pc2 := 27) op201_24 (by decide) (by decide) rfl (fun b8 => ?_) (fun b8 => ?_)
      · have gc16 := (if_pos b8).symm.trans gc16
        refine rx_ic (v := 1) (pc2 := 28) op201_27 (by decide) rfl ?_
        refine rx_p (L2 := [some (.ref 115), some (.ref q1), some (.int a2), o3, some (.int a4), some (.int a5)]) (S2 := [.ref q1, .int 1, .int a4]) (pc2 := 29) op201_28 rfl rfl ?_
        refine rx_p (L2 := [some (.ref 115), some (.ref q1), some (.int a2), o3, some (.int a4), some (.int a5)]) (S2 := [.int a5, .ref q1, .int 1, .int a4]) (pc2 := 31) op201_29 rfl rfl ?_
        obtain ⟨k9, gc16⟩ := rq_chk gc16
        refine rx_ia (pc2 := 32) op201_31 (rn_shlt hq1) hq1 k9 rfl rfl ?_
        refine rx_p (L2 := [some (.ref 115), some (.ref q1), some (.int a2), o3, some (.int a4), some (.int a5)]) (S2 := [.int ((1 : Int32) <<< ((m5.1 q1 a5.toNatClampNeg) &&& 31)), .int a4]) (pc2 := 33) op201_32 rfl rfl ?_
        refine ry_go (tgt := 37) op201_33 (by decide) (by decide) ?_
        cases gc16
        exact c16 _ _
      · have gc16 := (if_neg b8).symm.trans gc16
        refine rx_ic (v := 0) (pc2 := 37) op201_36 (by decide) rfl ?_
        cases gc16
        exact c16 _ _
    · have h := (if_neg b4).symm.trans h
      cases h
      exact hr _ _ rfl _ _ _ _ _
set_option maxHeartbeats 4000000 in
set_option maxRecDepth 20000 in
theorem mo_handAt_ok (xs : List Int32) {d : Nat} (hd : 1 ≤ d) {n : Nat} {q1 : Nat} {a2 : Int32} {a3 : Int32} {m mO : rn_Mem} {rO : Int32} (hq1 : sA_arr q1) (h : mo_handAt n q1 a2 a3 m = some (rO, mO)) : rn_R xs d 201 0 (rn_ent 6 [.ref 115, .ref q1, .int a2, .int a3]) [] (rn_SH, m) (some (.int rO)) (rn_SH, mO) := by
  obtain ⟨d, rfl⟩ : ∃ e, d = e + 1 := ⟨d - 1, by omega⟩
  unfold mo_handAt at h
  show rn_R xs (d + 1) 201 0 [some (.ref 115), some (.ref q1), some (.int a2), some (.int a3), none, none] [] (rn_SH, m) (some (.int rO)) (rn_SH, mO)
  refine rx_ic (v := 0) (pc2 := 1) op201_0 (by decide) rfl ?_
  refine rx_s (L2 := [some (.ref 115), some (.ref q1), some (.int a2), some (.int a3), some (.int 0), none]) (pc2 := 3) op201_1 rfl rfl rfl ?_
  refine rx_p (L2 := [some (.ref 115), some (.ref q1), some (.int a2), some (.int a3), some (.int 0), none]) (S2 := [.int a3]) (pc2 := 4) op201_3 rfl rfl ?_
  refine rx_s (L2 := [some (.ref 115), some (.ref q1), some (.int a2), some (.int a3), some (.int 0), some (.int a3)]) (pc2 := 6) op201_4 rfl rfl rfl ?_
  obtain ⟨wf24, f24, h⟩ := rq_bind h
  refine mo_handAt_l6_ok xs hd (fun x22 m17 eq => ?_) _ _ _ _ _ hq1 f24
  subst eq
  try dsimp only at h
  intro o18 o19 o20 o21 o23
  refine rx_p (L2 := [o18, o19, o20, o21, some (.int x22), o23]) (S2 := [.int x22]) (pc2 := 48) op201_46 rfl rfl ?_
  obtain ⟨rfl, rfl⟩ := rq_ret h
  exact ry_ri op201_48 ms_201 rfl
/-! mo_lawful -/
theorem op202_0 : rn_op 202 0 = some (.iload_n 2, 1, 0, 0, 0) := by decide +kernel
theorem op202_1 : rn_op 202 1 = some (.ifCond .lt 13, 3, 0, 0, 0) := by decide +kernel
theorem op202_4 : rn_op 202 4 = some (.aload_n 0, 1, 0, 0, 0) := by decide +kernel
theorem op202_5 : rn_op 202 5 = some (.getfield 7, 3, 11, 0, 3) := by decide +kernel
theorem op202_8 : rn_op 202 8 = some (.iconst 5, 1, 0, 0, 0) := by decide +kernel
theorem op202_9 : rn_op 202 9 = some (.iaload, 1, 0, 0, 0) := by decide +kernel
theorem op202_10 : rn_op 202 10 = some (.iconst 1, 1, 0, 0, 0) := by decide +kernel
theorem op202_11 : rn_op 202 11 = some (.if_icmp .ne 5, 3, 0, 0, 0) := by decide +kernel
theorem op202_14 : rn_op 202 14 = some (.iload_n 1, 1, 0, 0, 0) := by decide +kernel
theorem op202_15 : rn_op 202 15 = some (.ireturn, 1, 0, 0, 0) := by decide +kernel
theorem op202_16 : rn_op 202 16 = some (.iload_n 1, 1, 0, 0, 0) := by decide +kernel
theorem op202_17 : rn_op 202 17 = some (.bipush 15, 2, 0, 0, 0) := by decide +kernel
theorem op202_19 : rn_op 202 19 = some (.iconst 4, 1, 0, 0, 0) := by decide +kernel
theorem op202_20 : rn_op 202 20 = some (.iload_n 2, 1, 0, 0, 0) := by decide +kernel
theorem op202_21 : rn_op 202 21 = some (.invokestatic 185, 3, 162, 1, 0) := by decide +kernel
theorem op202_24 : rn_op 202 24 = some (.imul, 1, 0, 0, 0) := by decide +kernel
theorem op202_25 : rn_op 202 25 = some (.ishl, 1, 0, 0, 0) := by decide +kernel
theorem op202_26 : rn_op 202 26 = some (.iand, 1, 0, 0, 0) := by decide +kernel
theorem op202_27 : rn_op 202 27 = some (.istore_n 3, 1, 0, 0, 0) := by decide +kernel
theorem op202_28 : rn_op 202 28 = some (.iload_n 3, 1, 0, 0, 0) := by decide +kernel
theorem op202_29 : rn_op 202 29 = some (.ifCond .eq 5, 3, 0, 0, 0) := by decide +kernel
theorem op202_32 : rn_op 202 32 = some (.iload_n 3, 1, 0, 0, 0) := by decide +kernel
theorem op202_33 : rn_op 202 33 = some (.ireturn, 1, 0, 0, 0) := by decide +kernel
theorem op202_34 : rn_op 202 34 = some (.aload_n 0, 1, 0, 0, 0) := by decide +kernel
theorem op202_35 : rn_op 202 35 = some (.getfield 7, 3, 11, 0, 3) := by decide +kernel
theorem op202_38 : rn_op 202 38 = some (.iconst 4, 1, 0, 0, 0) := by decide +kernel
theorem op202_39 : rn_op 202 39 = some (.iaload, 1, 0, 0, 0) := by decide +kernel
theorem op202_40 : rn_op 202 40 = some (.ifCond .ge 7, 3, 0, 0, 0) := by decide +kernel
theorem op202_43 : rn_op 202 43 = some (.iconst 0, 1, 0, 0, 0) := by decide +kernel
theorem op202_44 : rn_op 202 44 = some (.goto 16, 3, 0, 0, 0) := by decide +kernel
theorem op202_47 : rn_op 202 47 = some (.iload_n 1, 1, 0, 0, 0) := by decide +kernel
theorem op202_48 : rn_op 202 48 = some (.bipush 15, 2, 0, 0, 0) := by decide +kernel
theorem op202_50 : rn_op 202 50 = some (.iconst 4, 1, 0, 0, 0) := by decide +kernel
theorem op202_51 : rn_op 202 51 = some (.aload_n 0, 1, 0, 0, 0) := by decide +kernel
theorem op202_52 : rn_op 202 52 = some (.getfield 7, 3, 11, 0, 3) := by decide +kernel
theorem op202_55 : rn_op 202 55 = some (.iconst 4, 1, 0, 0, 0) := by decide +kernel
theorem op202_56 : rn_op 202 56 = some (.iaload, 1, 0, 0, 0) := by decide +kernel
theorem op202_57 : rn_op 202 57 = some (.imul, 1, 0, 0, 0) := by decide +kernel
theorem op202_58 : rn_op 202 58 = some (.ishl, 1, 0, 0, 0) := by decide +kernel
theorem op202_59 : rn_op 202 59 = some (.iand, 1, 0, 0, 0) := by decide +kernel
theorem op202_60 : rn_op 202 60 = some (.istore 4, 2, 0, 0, 0) := by decide +kernel
theorem op202_62 : rn_op 202 62 = some (.aload_n 0, 1, 0, 0, 0) := by decide +kernel
theorem op202_63 : rn_op 202 63 = some (.getfield 7, 3, 11, 0, 3) := by decide +kernel
theorem op202_66 : rn_op 202 66 = some (.iconst 5, 1, 0, 0, 0) := by decide +kernel
theorem op202_67 : rn_op 202 67 = some (.iaload, 1, 0, 0, 0) := by decide +kernel
theorem op202_68 : rn_op 202 68 = some (.iconst 2, 1, 0, 0, 0) := by decide +kernel
theorem op202_69 : rn_op 202 69 = some (.if_icmp .ne 13, 3, 0, 0, 0) := by decide +kernel
theorem op202_72 : rn_op 202 72 = some (.iload 4, 2, 0, 0, 0) := by decide +kernel
theorem op202_74 : rn_op 202 74 = some (.ifCond .eq 8, 3, 0, 0, 0) := by decide +kernel
theorem op202_77 : rn_op 202 77 = some (.iload 4, 2, 0, 0, 0) := by decide +kernel
theorem op202_79 : rn_op 202 79 = some (.goto 4, 3, 0, 0, 0) := by decide +kernel
theorem op202_82 : rn_op 202 82 = some (.iload_n 1, 1, 0, 0, 0) := by decide +kernel
theorem op202_83 : rn_op 202 83 = some (.ireturn, 1, 0, 0, 0) := by decide +kernel
def mo_lawful (n : Nat) (a1 : Int32) (a2 : Int32) (m : rn_Mem) : Option (Int32 × rn_Mem) :=
  if a2 < 0 then
    some (a1, m)
  else
    if (m.1 116 5) = 1 then
      some (a1, m)
    else
      (mo_suitOf n a2 m).bind fun (r4, m3) =>
      (some (a1 &&& ((15 : Int32) <<< (((4 : Int32) * r4) &&& 31)))).bind fun (x6 : Int32) =>
      if x6 = 0 then
        (show Option (Int32) from
          if (m3.1 116 4) < 0 then
            some (0)
          else
            some (a1 &&& ((15 : Int32) <<< (((4 : Int32) * (m3.1 116 4)) &&& 31)))).bind fun x12 =>
        if (m3.1 116 5) = 2 then
          if x12 = 0 then
            some (a1, m3)
          else
            some (x12, m3)
        else
          some (a1, m3)
      else
        some (x6, m3)
set_option maxHeartbeats 4000000 in
set_option maxRecDepth 20000 in
theorem mo_lawful_ok (xs : List Int32) {d : Nat} (hd : 1 ≤ d) {n : Nat} {a1 : Int32} {a2 : Int32} {m mO : rn_Mem} {rO : Int32} (h : mo_lawful n a1 a2 m = some (rO, mO)) : rn_R xs d 202 0 (rn_ent 5 [.ref 115, .int a1, .int a2]) [] (rn_SH, m) (some (.int rO)) (rn_SH, mO) := by
  obtain ⟨d, rfl⟩ : ∃ e, d = e + 1 := ⟨d - 1, by omega⟩
  unfold mo_lawful at h
  show rn_R xs (d + 1) 202 0 [some (.ref 115), some (.int a1), some (.int a2), none, none] [] (rn_SH, m) (some (.int rO)) (rn_SH, mO)
  refine rx_p (L2 := [some (.ref 115), some (.int a1), some (.int a2), none, none]) (S2 := [.int a2]) (pc2 := 1) op202_0 rfl rfl ?_
  refine ry_if_lt (tgt := 14) (pc2 := 4) op202_1 (by decide) (by decide) rfl (fun b1 => ?_) (fun b1 => ?_)
  · have h := (if_pos b1).symm.trans h
    refine rx_p (L2 := [some (.ref 115), some (.int a1), some (.int a2), none, none]) (S2 := [.int a1]) (pc2 := 15) op202_14 rfl rfl ?_
    obtain ⟨rfl, rfl⟩ := rq_ret h
    exact ry_ri op202_15 ms_202 rfl
  · have h := (if_neg b1).symm.trans h
    refine rx_p (L2 := [some (.ref 115), some (.int a1), some (.int a2), none, none]) (S2 := [.ref 115]) (pc2 := 5) op202_4 rfl rfl ?_
    refine rx_gf (v := .ref 116) (pc2 := 8) op202_5 sp_115 rfl rfl rfl ?_
    refine rx_ic (v := 5) (pc2 := 9) op202_8 (by decide) rfl ?_
    refine rx_ia (j := 5) (pc2 := 10) op202_9 (rn_shlt sp_116) sp_116 (by decide) (by decide) rfl ?_
    refine rx_ic (v := 1) (pc2 := 11) op202_10 (by decide) rfl ?_
    refine ry_ic_ne (tgt := 16) (pc2 := 14) op202_11 (by decide) (by decide) rfl (fun b2 => ?_) (fun b2 => ?_)
    · have h := (if_pos b2).symm.trans h
      refine rx_p (L2 := [some (.ref 115), some (.int a1), some (.int a2), none, none]) (S2 := [.int a1]) (pc2 := 15) op202_14 rfl rfl ?_
      obtain ⟨rfl, rfl⟩ := rq_ret h
      exact ry_ri op202_15 ms_202 rfl
    · have h := (if_neg b2).symm.trans h
      refine rx_p (L2 := [some (.ref 115), some (.int a1), some (.int a2), none, none]) (S2 := [.int a1]) (pc2 := 17) op202_16 rfl rfl ?_
      refine rx_bp (v := 15) (pc2 := 19) op202_17 (by decide) rfl ?_
      refine rx_ic (v := 4) (pc2 := 20) op202_19 (by decide) rfl ?_
      refine rx_p (L2 := [some (.ref 115), some (.int a1), some (.int a2), none, none]) (S2 := [.int a2, .int 4, .int 15, .int a1]) (pc2 := 21) op202_20 rfl rfl ?_
      obtain ⟨⟨r4, m3⟩, f5, h⟩ := rq_bind h
      try dsimp only at h
      refine ry_is (vs := [.int a2]) (T := [.int 4, .int 15, .int a1]) (pc2 := 24) op202_21 (by decide) ms_162 (by decide) rfl rfl (Nat.le_of_ble_eq_true rfl) (Nat.le_of_ble_eq_true rfl) (mo_suitOf_ok xs (by omega)  f5) rfl ?_
      show rn_R _ _ _ _ _ [.int r4, .int 4, .int 15, .int a1] _ _ _
      refine rx_p (L2 := [some (.ref 115), some (.int a1), some (.int a2), none, none]) (S2 := [.int ((4 : Int32) * r4), .int 15, .int a1]) (pc2 := 25) op202_24 rfl rfl ?_
      refine rx_p (L2 := [some (.ref 115), some (.int a1), some (.int a2), none, none]) (S2 := [.int ((15 : Int32) <<< (((4 : Int32) * r4) &&& 31)), .int a1]) (pc2 := 26) op202_25 rfl rfl ?_
      refine rx_p (L2 := [some (.ref 115), some (.int a1), some (.int a2), none, none]) (S2 := [.int (a1 &&& ((15 : Int32) <<< (((4 : Int32) * r4) &&& 31)))]) (pc2 := 27) op202_26 rfl rfl ?_
      obtain ⟨x6, ex6, h⟩ := rq_bv h
      refine rx_s (v := x6) (L2 := [some (.ref 115), some (.int a1), some (.int a2), some (.int x6), none]) (pc2 := 28) op202_27 ex6 rfl rfl ?_
      refine rx_p (L2 := [some (.ref 115), some (.int a1), some (.int a2), some (.int x6), none]) (S2 := [.int x6]) (pc2 := 29) op202_28 rfl rfl ?_
      refine ry_if_eq (tgt := 34) (pc2 := 32) op202_29 (by decide) (by decide) rfl (fun b7 => ?_) (fun b7 => ?_)
      · have h := (if_pos b7).symm.trans h
        refine rx_p (L2 := [some (.ref 115), some (.int a1), some (.int a2), some (.int x6), none]) (S2 := [.ref 115]) (pc2 := 35) op202_34 rfl rfl ?_
        refine rx_gf (v := .ref 116) (pc2 := 38) op202_35 sp_115 rfl rfl rfl ?_
        refine rx_ic (v := 4) (pc2 := 39) op202_38 (by decide) rfl ?_
        refine rx_ia (j := 4) (pc2 := 40) op202_39 (rn_shlt sp_116) sp_116 (by decide) (by decide) rfl ?_
        obtain ⟨x12, gc16, h⟩ := rq_bind h
        try dsimp only at h
        have c16 : ∀ (o9 o10 o11 : Option Value), rn_R xs (d + 1) 202 60 [some (.ref 115), some (.int a1), o9, o10, o11] [.int x12] (rn_SH, m3) (some (.int rO)) (rn_SH, mO) := by
          intro o9 o10 o11
          refine rx_sd (v := x12) (j := 3) (pc2 := 62) op202_60 rfl rfl (Nat.le_of_ble_eq_true rfl) rfl (fun o13 => ?_)
          show rn_R _ _ _ _ [some (.ref 115), some (.int a1), o9, o13, some (.int x12)] _ _ _ _
          refine rx_p (L2 := [some (.ref 115), some (.int a1), o9, o13, some (.int x12)]) (S2 := [.ref 115]) (pc2 := 63) op202_62 rfl rfl ?_
          refine rx_gf (v := .ref 116) (pc2 := 66) op202_63 sp_115 rfl rfl rfl ?_
          refine rx_ic (v := 5) (pc2 := 67) op202_66 (by decide) rfl ?_
          refine rx_ia (j := 5) (pc2 := 68) op202_67 (rn_shlt sp_116) sp_116 (by decide) (by decide) rfl ?_
          refine rx_ic (v := 2) (pc2 := 69) op202_68 (by decide) rfl ?_
          refine ry_ic_ne (tgt := 82) (pc2 := 72) op202_69 (by decide) (by decide) rfl (fun b14 => ?_) (fun b14 => ?_)
          · have h := (if_pos b14).symm.trans h
            refine rx_p (L2 := [some (.ref 115), some (.int a1), o9, o13, some (.int x12)]) (S2 := [.int x12]) (pc2 := 74) op202_72 rfl rfl ?_
            refine ry_if_eq (tgt := 82) (pc2 := 77) op202_74 (by decide) (by decide) rfl (fun b15 => ?_) (fun b15 => ?_)
            · have h := (if_pos b15).symm.trans h
              refine rx_p (L2 := [some (.ref 115), some (.int a1), o9, o13, some (.int x12)]) (S2 := [.int a1]) (pc2 := 83) op202_82 rfl rfl ?_
              obtain ⟨rfl, rfl⟩ := rq_ret h
              exact ry_ri op202_83 ms_202 rfl
            · have h := (if_neg b15).symm.trans h
              refine rx_p (L2 := [some (.ref 115), some (.int a1), o9, o13, some (.int x12)]) (S2 := [.int x12]) (pc2 := 79) op202_77 rfl rfl ?_
              refine ry_go (tgt := 83) op202_79 (by decide) (by decide) ?_
              obtain ⟨rfl, rfl⟩ := rq_ret h
              exact ry_ri op202_83 ms_202 rfl
          · have h := (if_neg b14).symm.trans h
            refine rx_p (L2 := [some (.ref 115), some (.int a1), o9, o13, some (.int x12)]) (S2 := [.int a1]) (pc2 := 83) op202_82 rfl rfl ?_
            obtain ⟨rfl, rfl⟩ := rq_ret h
            exact ry_ri op202_83 ms_202 rfl
        refine ry_if_ge (tgt := 47) (pc2 := 43) op202_40 (by decide) (by decide) rfl (fun b8 => ?_) (fun b8 => ?_)
        · have gc16 := (if_pos b8).symm.trans gc16
          refine rx_ic (v := 0) (pc2 := 44) op202_43 (by decide) rfl ?_
          refine ry_go (tgt := 60) op202_44 (by decide) (by decide) ?_
          cases gc16
          exact c16 _ _ _
        · have gc16 := (if_neg b8).symm.trans gc16
          refine rx_p (L2 := [some (.ref 115), some (.int a1), some (.int a2), some (.int x6), none]) (S2 := [.int a1]) (pc2 := 48) op202_47 rfl rfl ?_
          refine rx_bp (v := 15) (pc2 := 50) op202_48 (by decide) rfl ?_
          refine rx_ic (v := 4) (pc2 := 51) op202_50 (by decide) rfl ?_
          refine rx_p (L2 := [some (.ref 115), some (.int a1), some (.int a2), some (.int x6), none]) (S2 := [.ref 115, .int 4, .int 15, .int a1]) (pc2 := 52) op202_51 rfl rfl ?_
          refine rx_gf (v := .ref 116) (pc2 := 55) op202_52 sp_115 rfl rfl rfl ?_
          refine rx_ic (v := 4) (pc2 := 56) op202_55 (by decide) rfl ?_
          refine rx_ia (j := 4) (pc2 := 57) op202_56 (rn_shlt sp_116) sp_116 (by decide) (by decide) rfl ?_
          refine rx_p (L2 := [some (.ref 115), some (.int a1), some (.int a2), some (.int x6), none]) (S2 := [.int ((4 : Int32) * (m3.1 116 4)), .int 15, .int a1]) (pc2 := 58) op202_57 rfl rfl ?_
          refine rx_p (L2 := [some (.ref 115), some (.int a1), some (.int a2), some (.int x6), none]) (S2 := [.int ((15 : Int32) <<< (((4 : Int32) * (m3.1 116 4)) &&& 31)), .int a1]) (pc2 := 59) op202_58 rfl rfl ?_
          refine rx_p (L2 := [some (.ref 115), some (.int a1), some (.int a2), some (.int x6), none]) (S2 := [.int (a1 &&& ((15 : Int32) <<< (((4 : Int32) * (m3.1 116 4)) &&& 31)))]) (pc2 := 60) op202_59 rfl rfl ?_
          cases gc16
          exact c16 _ _ _
      · have h := (if_neg b7).symm.trans h
        refine rx_p (L2 := [some (.ref 115), some (.int a1), some (.int a2), some (.int x6), none]) (S2 := [.int x6]) (pc2 := 33) op202_32 rfl rfl ?_
        obtain ⟨rfl, rfl⟩ := rq_ret h
        exact ry_ri op202_33 ms_202 rfl
/-! mo_row -/
theorem op197_0 : rn_op 197 0 = some (.iload_n 1, 1, 0, 0, 0) := by decide +kernel
theorem op197_1 : rn_op 197 1 = some (.i2l, 1, 0, 0, 0) := by decide +kernel
theorem op197_2 : rn_op 197 2 = some (.lconst 0, 1, 0, 0, 0) := by decide +kernel
theorem op197_3 : rn_op 197 3 = some (.ldc2_w 153, 3, 3, 0, 0) := by decide +kernel
theorem op197_6 : rn_op 197 6 = some (.invokestatic 121, 3, 147, 3, 0) := by decide +kernel
theorem op197_9 : rn_op 197 9 = some (.ifCond .eq 11, 3, 0, 0, 0) := by decide +kernel
theorem op197_12 : rn_op 197 12 = some (.iload_n 2, 1, 0, 0, 0) := by decide +kernel
theorem op197_13 : rn_op 197 13 = some (.iload_n 3, 1, 0, 0, 0) := by decide +kernel
theorem op197_14 : rn_op 197 14 = some (.invokestatic 292, 3, 198, 2, 0) := by decide +kernel
theorem op197_17 : rn_op 197 17 = some (.ifCond .ne 5, 3, 0, 0, 0) := by decide +kernel
theorem op197_20 : rn_op 197 20 = some (.iconst (-1), 1, 0, 0, 0) := by decide +kernel
theorem op197_21 : rn_op 197 21 = some (.ireturn, 1, 0, 0, 0) := by decide +kernel
theorem op197_22 : rn_op 197 22 = some (.aload_n 0, 1, 0, 0, 0) := by decide +kernel
theorem op197_23 : rn_op 197 23 = some (.getfield 7, 3, 11, 0, 3) := by decide +kernel
theorem op197_26 : rn_op 197 26 = some (.iconst 0, 1, 0, 0, 0) := by decide +kernel
theorem op197_27 : rn_op 197 27 = some (.iaload, 1, 0, 0, 0) := by decide +kernel
theorem op197_28 : rn_op 197 28 = some (.ifCond .ne 6, 3, 0, 0, 0) := by decide +kernel
theorem op197_31 : rn_op 197 31 = some (.bipush (-2), 2, 0, 0, 0) := by decide +kernel
theorem op197_33 : rn_op 197 33 = some (.ireturn, 1, 0, 0, 0) := by decide +kernel
theorem op197_34 : rn_op 197 34 = some (.aload_n 0, 1, 0, 0, 0) := by decide +kernel
theorem op197_35 : rn_op 197 35 = some (.iload_n 1, 1, 0, 0, 0) := by decide +kernel
theorem op197_36 : rn_op 197 36 = some (.invokevirtual 182, 3, 167, 2, 11) := by decide +kernel
theorem op197_39 : rn_op 197 39 = some (.ifCond .ne 5, 3, 0, 0, 0) := by decide +kernel
theorem op197_42 : rn_op 197 42 = some (.iconst (-1), 1, 0, 0, 0) := by decide +kernel
theorem op197_43 : rn_op 197 43 = some (.ireturn, 1, 0, 0, 0) := by decide +kernel
theorem op197_44 : rn_op 197 44 = some (.aload_n 0, 1, 0, 0, 0) := by decide +kernel
theorem op197_45 : rn_op 197 45 = some (.iload_n 2, 1, 0, 0, 0) := by decide +kernel
theorem op197_46 : rn_op 197 46 = some (.iload_n 3, 1, 0, 0, 0) := by decide +kernel
theorem op197_47 : rn_op 197 47 = some (.iload 4, 2, 0, 0, 0) := by decide +kernel
theorem op197_49 : rn_op 197 49 = some (.aload_n 0, 1, 0, 0, 0) := by decide +kernel
theorem op197_50 : rn_op 197 50 = some (.invokevirtual 167, 3, 155, 1, 11) := by decide +kernel
theorem op197_53 : rn_op 197 53 = some (.invokevirtual 296, 3, 199, 5, 11) := by decide +kernel
theorem op197_56 : rn_op 197 56 = some (.istore 5, 2, 0, 0, 0) := by decide +kernel
theorem op197_58 : rn_op 197 58 = some (.iload 5, 2, 0, 0, 0) := by decide +kernel
theorem op197_60 : rn_op 197 60 = some (.ifCond .ge 6, 3, 0, 0, 0) := by decide +kernel
theorem op197_63 : rn_op 197 63 = some (.iload 5, 2, 0, 0, 0) := by decide +kernel
theorem op197_65 : rn_op 197 65 = some (.ireturn, 1, 0, 0, 0) := by decide +kernel
theorem op197_66 : rn_op 197 66 = some (.iconst 0, 1, 0, 0, 0) := by decide +kernel
theorem op197_67 : rn_op 197 67 = some (.istore 6, 2, 0, 0, 0) := by decide +kernel
theorem op197_69 : rn_op 197 69 = some (.iconst 0, 1, 0, 0, 0) := by decide +kernel
theorem op197_70 : rn_op 197 70 = some (.istore 7, 2, 0, 0, 0) := by decide +kernel
theorem op197_72 : rn_op 197 72 = some (.iload 7, 2, 0, 0, 0) := by decide +kernel
theorem op197_74 : rn_op 197 74 = some (.aload_n 0, 1, 0, 0, 0) := by decide +kernel
theorem op197_75 : rn_op 197 75 = some (.invokevirtual 167, 3, 155, 1, 11) := by decide +kernel
theorem op197_78 : rn_op 197 78 = some (.if_icmp .ge 67, 3, 0, 0, 0) := by decide +kernel
theorem op197_81 : rn_op 197 81 = some (.aload_n 0, 1, 0, 0, 0) := by decide +kernel
theorem op197_82 : rn_op 197 82 = some (.getfield 118, 3, 11, 50, 3) := by decide +kernel
theorem op197_85 : rn_op 197 85 = some (.bipush 24, 2, 0, 0, 0) := by decide +kernel
theorem op197_87 : rn_op 197 87 = some (.iload_n 2, 1, 0, 0, 0) := by decide +kernel
theorem op197_88 : rn_op 197 88 = some (.imul, 1, 0, 0, 0) := by decide +kernel
theorem op197_89 : rn_op 197 89 = some (.iload 4, 2, 0, 0, 0) := by decide +kernel
theorem op197_91 : rn_op 197 91 = some (.iadd, 1, 0, 0, 0) := by decide +kernel
theorem op197_92 : rn_op 197 92 = some (.iload 7, 2, 0, 0, 0) := by decide +kernel
theorem op197_94 : rn_op 197 94 = some (.iadd, 1, 0, 0, 0) := by decide +kernel
theorem op197_95 : rn_op 197 95 = some (.iaload, 1, 0, 0, 0) := by decide +kernel
theorem op197_96 : rn_op 197 96 = some (.istore 8, 2, 0, 0, 0) := by decide +kernel
theorem op197_98 : rn_op 197 98 = some (.aload_n 0, 1, 0, 0, 0) := by decide +kernel
theorem op197_99 : rn_op 197 99 = some (.iload 8, 2, 0, 0, 0) := by decide +kernel
theorem op197_101 : rn_op 197 101 = some (.invokevirtual 190, 3, 169, 2, 11) := by decide +kernel
theorem op197_104 : rn_op 197 104 = some (.ifCond .eq 14, 3, 0, 0, 0) := by decide +kernel
theorem op197_107 : rn_op 197 107 = some (.iload 6, 2, 0, 0, 0) := by decide +kernel
theorem op197_109 : rn_op 197 109 = some (.iload 8, 2, 0, 0, 0) := by decide +kernel
theorem op197_111 : rn_op 197 111 = some (.ishr, 1, 0, 0, 0) := by decide +kernel
theorem op197_112 : rn_op 197 112 = some (.iconst 1, 1, 0, 0, 0) := by decide +kernel
theorem op197_113 : rn_op 197 113 = some (.iand, 1, 0, 0, 0) := by decide +kernel
theorem op197_114 : rn_op 197 114 = some (.iconst 1, 1, 0, 0, 0) := by decide +kernel
theorem op197_115 : rn_op 197 115 = some (.if_icmp .ne 6, 3, 0, 0, 0) := by decide +kernel
theorem op197_118 : rn_op 197 118 = some (.iload 7, 2, 0, 0, 0) := by decide +kernel
theorem op197_120 : rn_op 197 120 = some (.ireturn, 1, 0, 0, 0) := by decide +kernel
theorem op197_121 : rn_op 197 121 = some (.iload 6, 2, 0, 0, 0) := by decide +kernel
theorem op197_123 : rn_op 197 123 = some (.iconst 1, 1, 0, 0, 0) := by decide +kernel
theorem op197_124 : rn_op 197 124 = some (.iload 8, 2, 0, 0, 0) := by decide +kernel
theorem op197_126 : rn_op 197 126 = some (.ishl, 1, 0, 0, 0) := by decide +kernel
theorem op197_127 : rn_op 197 127 = some (.ior, 1, 0, 0, 0) := by decide +kernel
theorem op197_128 : rn_op 197 128 = some (.istore 6, 2, 0, 0, 0) := by decide +kernel
theorem op197_130 : rn_op 197 130 = some (.aload_n 0, 1, 0, 0, 0) := by decide +kernel
theorem op197_131 : rn_op 197 131 = some (.getfield 76, 3, 11, 35, 3) := by decide +kernel
theorem op197_134 : rn_op 197 134 = some (.iload 7, 2, 0, 0, 0) := by decide +kernel
theorem op197_136 : rn_op 197 136 = some (.iload 8, 2, 0, 0, 0) := by decide +kernel
theorem op197_138 : rn_op 197 138 = some (.iastore, 1, 0, 0, 0) := by decide +kernel
theorem op197_139 : rn_op 197 139 = some (.iinc 7 1, 3, 0, 0, 0) := by decide +kernel
theorem op197_142 : rn_op 197 142 = some (.goto (-70), 3, 0, 0, 0) := by decide +kernel
theorem op197_145 : rn_op 197 145 = some (.aload_n 0, 1, 0, 0, 0) := by decide +kernel
theorem op197_146 : rn_op 197 146 = some (.aload_n 0, 1, 0, 0, 0) := by decide +kernel
theorem op197_147 : rn_op 197 147 = some (.getfield 76, 3, 11, 35, 3) := by decide +kernel
theorem op197_150 : rn_op 197 150 = some (.iload_n 1, 1, 0, 0, 0) := by decide +kernel
theorem op197_151 : rn_op 197 151 = some (.aload_n 0, 1, 0, 0, 0) := by decide +kernel
theorem op197_152 : rn_op 197 152 = some (.invokevirtual 167, 3, 155, 1, 11) := by decide +kernel
theorem op197_155 : rn_op 197 155 = some (.invokevirtual 288, 3, 160, 4, 11) := by decide +kernel
theorem op197_158 : rn_op 197 158 = some (.iconst 0, 1, 0, 0, 0) := by decide +kernel
theorem op197_159 : rn_op 197 159 = some (.istore 7, 2, 0, 0, 0) := by decide +kernel
theorem op197_161 : rn_op 197 161 = some (.iload 7, 2, 0, 0, 0) := by decide +kernel
theorem op197_163 : rn_op 197 163 = some (.aload_n 0, 1, 0, 0, 0) := by decide +kernel
theorem op197_164 : rn_op 197 164 = some (.invokevirtual 167, 3, 155, 1, 11) := by decide +kernel
theorem op197_167 : rn_op 197 167 = some (.if_icmp .ge 83, 3, 0, 0, 0) := by decide +kernel
theorem op197_170 : rn_op 197 170 = some (.iload 7, 2, 0, 0, 0) := by decide +kernel
theorem op197_172 : rn_op 197 172 = some (.aload_n 0, 1, 0, 0, 0) := by decide +kernel
theorem op197_173 : rn_op 197 173 = some (.getfield 7, 3, 11, 0, 3) := by decide +kernel
theorem op197_176 : rn_op 197 176 = some (.iconst 1, 1, 0, 0, 0) := by decide +kernel
theorem op197_177 : rn_op 197 177 = some (.iaload, 1, 0, 0, 0) := by decide +kernel
theorem op197_178 : rn_op 197 178 = some (.irem, 1, 0, 0, 0) := by decide +kernel
theorem op197_179 : rn_op 197 179 = some (.ifCond .ne 8, 3, 0, 0, 0) := by decide +kernel
theorem op197_182 : rn_op 197 182 = some (.bipush (-4), 2, 0, 0, 0) := by decide +kernel
theorem op197_184 : rn_op 197 184 = some (.goto 20, 3, 0, 0, 0) := by decide +kernel
theorem op197_187 : rn_op 197 187 = some (.aload_n 0, 1, 0, 0, 0) := by decide +kernel
theorem op197_188 : rn_op 197 188 = some (.getfield 76, 3, 11, 35, 3) := by decide +kernel
theorem op197_191 : rn_op 197 191 = some (.iload 7, 2, 0, 0, 0) := by decide +kernel
theorem op197_193 : rn_op 197 193 = some (.iload 7, 2, 0, 0, 0) := by decide +kernel
theorem op197_195 : rn_op 197 195 = some (.aload_n 0, 1, 0, 0, 0) := by decide +kernel
theorem op197_196 : rn_op 197 196 = some (.getfield 7, 3, 11, 0, 3) := by decide +kernel
theorem op197_199 : rn_op 197 199 = some (.iconst 1, 1, 0, 0, 0) := by decide +kernel
theorem op197_200 : rn_op 197 200 = some (.iaload, 1, 0, 0, 0) := by decide +kernel
theorem op197_201 : rn_op 197 201 = some (.irem, 1, 0, 0, 0) := by decide +kernel
theorem op197_202 : rn_op 197 202 = some (.isub, 1, 0, 0, 0) := by decide +kernel
theorem op197_203 : rn_op 197 203 = some (.iaload, 1, 0, 0, 0) := by decide +kernel
theorem op197_204 : rn_op 197 204 = some (.istore 8, 2, 0, 0, 0) := by decide +kernel
theorem op197_206 : rn_op 197 206 = some (.aload_n 0, 1, 0, 0, 0) := by decide +kernel
theorem op197_207 : rn_op 197 207 = some (.aload_n 0, 1, 0, 0, 0) := by decide +kernel
theorem op197_208 : rn_op 197 208 = some (.aload_n 0, 1, 0, 0, 0) := by decide +kernel
theorem op197_209 : rn_op 197 209 = some (.getfield 76, 3, 11, 35, 3) := by decide +kernel
theorem op197_212 : rn_op 197 212 = some (.aload_n 0, 1, 0, 0, 0) := by decide +kernel
theorem op197_213 : rn_op 197 213 = some (.iload 7, 2, 0, 0, 0) := by decide +kernel
theorem op197_215 : rn_op 197 215 = some (.invokevirtual 285, 3, 200, 2, 11) := by decide +kernel
theorem op197_218 : rn_op 197 218 = some (.iload 7, 2, 0, 0, 0) := by decide +kernel
theorem op197_220 : rn_op 197 220 = some (.invokevirtual 300, 3, 201, 4, 11) := by decide +kernel
theorem op197_223 : rn_op 197 223 = some (.iload 8, 2, 0, 0, 0) := by decide +kernel
theorem op197_225 : rn_op 197 225 = some (.invokevirtual 304, 3, 202, 3, 11) := by decide +kernel
theorem op197_228 : rn_op 197 228 = some (.aload_n 0, 1, 0, 0, 0) := by decide +kernel
theorem op197_229 : rn_op 197 229 = some (.getfield 76, 3, 11, 35, 3) := by decide +kernel
theorem op197_232 : rn_op 197 232 = some (.iload 7, 2, 0, 0, 0) := by decide +kernel
theorem op197_234 : rn_op 197 234 = some (.iaload, 1, 0, 0, 0) := by decide +kernel
theorem op197_235 : rn_op 197 235 = some (.ishr, 1, 0, 0, 0) := by decide +kernel
theorem op197_236 : rn_op 197 236 = some (.iconst 1, 1, 0, 0, 0) := by decide +kernel
theorem op197_237 : rn_op 197 237 = some (.iand, 1, 0, 0, 0) := by decide +kernel
theorem op197_238 : rn_op 197 238 = some (.ifCond .ne 6, 3, 0, 0, 0) := by decide +kernel
theorem op197_241 : rn_op 197 241 = some (.iload 7, 2, 0, 0, 0) := by decide +kernel
theorem op197_243 : rn_op 197 243 = some (.ireturn, 1, 0, 0, 0) := by decide +kernel
theorem op197_244 : rn_op 197 244 = some (.iinc 7 1, 3, 0, 0, 0) := by decide +kernel
theorem op197_247 : rn_op 197 247 = some (.goto (-86), 3, 0, 0, 0) := by decide +kernel
theorem op197_250 : rn_op 197 250 = some (.aload_n 0, 1, 0, 0, 0) := by decide +kernel
theorem op197_251 : rn_op 197 251 = some (.getfield 7, 3, 11, 0, 3) := by decide +kernel
theorem op197_254 : rn_op 197 254 = some (.bipush 88, 2, 0, 0, 0) := by decide +kernel
theorem op197_256 : rn_op 197 256 = some (.iload_n 1, 1, 0, 0, 0) := by decide +kernel
theorem op197_257 : rn_op 197 257 = some (.iastore, 1, 0, 0, 0) := by decide +kernel
theorem op197_258 : rn_op 197 258 = some (.iconst 0, 1, 0, 0, 0) := by decide +kernel
theorem op197_259 : rn_op 197 259 = some (.istore 7, 2, 0, 0, 0) := by decide +kernel
theorem op197_261 : rn_op 197 261 = some (.iload 7, 2, 0, 0, 0) := by decide +kernel
theorem op197_263 : rn_op 197 263 = some (.aload_n 0, 1, 0, 0, 0) := by decide +kernel
theorem op197_264 : rn_op 197 264 = some (.invokevirtual 167, 3, 155, 1, 11) := by decide +kernel
theorem op197_267 : rn_op 197 267 = some (.if_icmp .ge 26, 3, 0, 0, 0) := by decide +kernel
theorem op197_270 : rn_op 197 270 = some (.aload_n 0, 1, 0, 0, 0) := by decide +kernel
theorem op197_271 : rn_op 197 271 = some (.getfield 7, 3, 11, 0, 3) := by decide +kernel
theorem op197_274 : rn_op 197 274 = some (.bipush 89, 2, 0, 0, 0) := by decide +kernel
theorem op197_276 : rn_op 197 276 = some (.iload 7, 2, 0, 0, 0) := by decide +kernel
theorem op197_278 : rn_op 197 278 = some (.iadd, 1, 0, 0, 0) := by decide +kernel
theorem op197_279 : rn_op 197 279 = some (.aload_n 0, 1, 0, 0, 0) := by decide +kernel
theorem op197_280 : rn_op 197 280 = some (.getfield 76, 3, 11, 35, 3) := by decide +kernel
theorem op197_283 : rn_op 197 283 = some (.iload 7, 2, 0, 0, 0) := by decide +kernel
theorem op197_285 : rn_op 197 285 = some (.iaload, 1, 0, 0, 0) := by decide +kernel
theorem op197_286 : rn_op 197 286 = some (.iastore, 1, 0, 0, 0) := by decide +kernel
theorem op197_287 : rn_op 197 287 = some (.iinc 7 1, 3, 0, 0, 0) := by decide +kernel
theorem op197_290 : rn_op 197 290 = some (.goto (-29), 3, 0, 0, 0) := by decide +kernel
theorem op197_293 : rn_op 197 293 = some (.aload_n 0, 1, 0, 0, 0) := by decide +kernel
theorem op197_294 : rn_op 197 294 = some (.getfield 7, 3, 11, 0, 3) := by decide +kernel
theorem op197_297 : rn_op 197 297 = some (.bipush 11, 2, 0, 0, 0) := by decide +kernel
theorem op197_299 : rn_op 197 299 = some (.iconst 1, 1, 0, 0, 0) := by decide +kernel
theorem op197_300 : rn_op 197 300 = some (.iastore, 1, 0, 0, 0) := by decide +kernel
theorem op197_301 : rn_op 197 301 = some (.bipush (-4), 2, 0, 0, 0) := by decide +kernel
theorem op197_303 : rn_op 197 303 = some (.ireturn, 1, 0, 0, 0) := by decide +kernel
def mo_row_l72 (a1 : Int32) (a2 : Int32) (a4 : Int32) : Nat → Int32 → Int32 → rn_Mem → Option ((Int32 × rn_Mem) ⊕ (rn_Mem))
  | 0, _, _, _ => none
  | n + 1, a6, a7, m =>
    (mo_size n m).bind fun (r22, m21) =>
    if a7 < r22 then
      if rn_in ((((24 : Int32) * a2) + a4) + a7) 96 = true then
        (some (m21.1 152 ((((24 : Int32) * a2) + a4) + a7).toNatClampNeg)).bind fun (x26 : Int32) =>
        (mo_isInPack n x26 m21).bind fun (r28, m27) =>
        if r28 = 0 then
          some (.inl (a7, m27))
        else
          if ((a6 >>> (x26 &&& 31)) &&& 1) = 1 then
            some (.inl (a7, m27))
          else
            (some (a6 ||| ((1 : Int32) <<< (x26 &&& 31)))).bind fun (x33 : Int32) =>
            if rn_in a7 13 = true then
              (some (rm_i m27 138 a7.toNatClampNeg x26)).bind fun (m34 : rn_Mem) =>
              (some (a7 + 1)).bind fun (x36 : Int32) =>
              mo_row_l72 a1 a2 a4 n x33 x36 m34
            else none
      else none
    else
      some (.inr m21)
def mo_row_l161 (a1 : Int32) : Nat → Int32 → rn_Mem → Option ((Int32 × rn_Mem) ⊕ (rn_Mem))
  | 0, _, _ => none
  | n + 1, a7, m =>
    (mo_size n m).bind fun (r52, m51) =>
    if a7 < r52 then
      if ¬ (m51.1 116 1) = 0 then
        (show Option (Int32) from
          if (rn_rem a7 (m51.1 116 1)) = 0 then
            some ((-4))
          else
            if ¬ (m51.1 116 1) = 0 then
              if rn_in (a7 - (rn_rem a7 (m51.1 116 1))) 13 = true then
                some (m51.1 138 (a7 - (rn_rem a7 (m51.1 116 1))).toNatClampNeg)
              else none
            else none).bind fun x65 =>
        (mo_playerAt n a7 m51).bind fun (r67, m66) =>
        (mo_handAt n 138 r67 a7 m66).bind fun (r70, m69) =>
        (mo_lawful n r70 x65 m69).bind fun (r73, m72) =>
        if rn_in a7 13 = true then
          if ((r73 >>> ((m72.1 138 a7.toNatClampNeg) &&& 31)) &&& 1) = 0 then
            some (.inl (a7, m72))
          else
            (some (a7 + 1)).bind fun (x77 : Int32) =>
            mo_row_l161 a1 n x77 m72
        else none
      else none
    else
      some (.inr m51)
def mo_row_l261  : Nat → Int32 → rn_Mem → Option (rn_Mem)
  | 0, _, _ => none
  | n + 1, a7, m =>
    (mo_size n m).bind fun (r91, m90) =>
    if a7 < r91 then
      if rn_in a7 13 = true then
        if rn_in ((89 : Int32) + a7) 101 = true then
          (some (rm_i m90 116 ((89 : Int32) + a7).toNatClampNeg (m90.1 138 a7.toNatClampNeg))).bind fun (m95 : rn_Mem) =>
          (some (a7 + 1)).bind fun (x97 : Int32) =>
          mo_row_l261 n x97 m95
        else none
      else none
    else
      some m90
def mo_row (n : Nat) (a1 : Int32) (a2 : Int32) (a3 : Int32) (a4 : Int32) (m : rn_Mem) : Option (Int32 × rn_Mem) :=
  (mo_in n (a1.toInt64) 0 3 m).bind fun (r2, m1) =>
  if r2 = 0 then
    some ((-1), m1)
  else
    (mo_isSheet n a2 a3 m1).bind fun (r6, m5) =>
    if r6 = 0 then
      some ((-1), m5)
    else
      if (m5.1 116 0) = 0 then
        some ((-2), m5)
      else
        (mo_isChair n a1 m5).bind fun (r11, m10) =>
        if r11 = 0 then
          some ((-1), m10)
        else
          (mo_size n m10).bind fun (r15, m14) =>
          (mo_lacksRow n a2 a3 a4 r15 m14).bind fun (r18, m17) =>
          if r18 < 0 then
            some (r18, m17)
          else
            (mo_row_l72 a1 a2 a4 n 0 0 m17).bind fun q => match q with
            | .inl o => some o
            | .inr m37 =>
            (mo_size n m37).bind fun (r46, m45) =>
            (mo_findLeaders n 138 a1 r46 m45).bind fun m48 =>
            (mo_row_l161 a1 n 0 m48).bind fun q => match q with
            | .inl o => some o
            | .inr m80 =>
            (some (rm_i m80 116 88 a1)).bind fun (m88 : rn_Mem) =>
            (mo_row_l261 n 0 m88).bind fun m99 =>
            (some (rm_i m99 116 11 1)).bind fun (m108 : rn_Mem) =>
            some ((-4), m108)
set_option maxHeartbeats 4000000 in
set_option maxRecDepth 20000 in
theorem mo_row_l72_ok (xs : List Int32) {d : Nat} (hd : 3 ≤ d + 1) {a1 : Int32} {a2 : Int32} {a4 : Int32} {r : Option Value} {τ : rn_H} {out : (Int32 × rn_Mem) ⊕ (rn_Mem)} (hl : ∀ (rO : Int32) (mO : rn_Mem), out = .inl (rO, mO) → r = (some (.int rO)) ∧ τ = (rn_SH, mO)) (hr : ∀ (mO : rn_Mem), out = .inr mO → ∀ (o2 o3 o4 o5 o6 o7 o8 : Option Value), rn_R xs (d + 1) 197 145 [some (.ref 115), some (.int a1), o2, o3, o4, o5, o6, o7, o8] [] (rn_SH, mO) r τ) : ∀ (n : Nat) (a6 : Int32) (a7 : Int32) (o3 o5 o8 : Option Value) (m : rn_Mem), mo_row_l72 a1 a2 a4 n a6 a7 m = some out → rn_R xs (d + 1) 197 72 [some (.ref 115), some (.int a1), some (.int a2), o3, some (.int a4), o5, some (.int a6), some (.int a7), o8] [] (rn_SH, m) r τ := by
  intro n
  induction n with
  | zero =>
    intro _ _ _ _ _ _ h
    cases h
  | succ n ih =>
    intro a6 a7 o3 o5 o8 m h
    unfold mo_row_l72 at h
    try dsimp only at h
    refine rx_p (L2 := [some (.ref 115), some (.int a1), some (.int a2), o3, some (.int a4), o5, some (.int a6), some (.int a7), o8]) (S2 := [.int a7]) (pc2 := 74) op197_72 rfl rfl ?_
    refine rx_p (L2 := [some (.ref 115), some (.int a1), some (.int a2), o3, some (.int a4), o5, some (.int a6), some (.int a7), o8]) (S2 := [.ref 115, .int a7]) (pc2 := 75) op197_74 rfl rfl ?_
    obtain ⟨⟨r22, m21⟩, f23, h⟩ := rq_bind h
    try dsimp only at h
    refine ry_iv (p := 115) (vs := []) (T := [.int a7]) (pc2 := 78) op197_75 ms_155 (by decide) rfl rfl (Nat.le_of_ble_eq_true rfl) (Nat.le_of_ble_eq_true rfl) sp_115 (mo_size_ok xs (by omega)  f23) rfl ?_
    show rn_R _ _ _ _ _ [.int r22, .int a7] _ _ _
    refine ry_ic_ge (tgt := 145) (pc2 := 81) op197_78 (by decide) (by decide) rfl (fun b24 => ?_) (fun b24 => ?_)
    · have h := (if_pos b24).symm.trans h
      refine rx_p (L2 := [some (.ref 115), some (.int a1), some (.int a2), o3, some (.int a4), o5, some (.int a6), some (.int a7), o8]) (S2 := [.ref 115]) (pc2 := 82) op197_81 rfl rfl ?_
      refine rx_gf (v := .ref 152) (pc2 := 85) op197_82 sp_115 rfl rfl rfl ?_
      refine rx_bp (v := 24) (pc2 := 87) op197_85 (by decide) rfl ?_
      refine rx_p (L2 := [some (.ref 115), some (.int a1), some (.int a2), o3, some (.int a4), o5, some (.int a6), some (.int a7), o8]) (S2 := [.int a2, .int 24, .ref 152]) (pc2 := 88) op197_87 rfl rfl ?_
      refine rx_p (L2 := [some (.ref 115), some (.int a1), some (.int a2), o3, some (.int a4), o5, some (.int a6), some (.int a7), o8]) (S2 := [.int ((24 : Int32) * a2), .ref 152]) (pc2 := 89) op197_88 rfl rfl ?_
      refine rx_p (L2 := [some (.ref 115), some (.int a1), some (.int a2), o3, some (.int a4), o5, some (.int a6), some (.int a7), o8]) (S2 := [.int a4, .int ((24 : Int32) * a2), .ref 152]) (pc2 := 91) op197_89 rfl rfl ?_
      refine rx_p (L2 := [some (.ref 115), some (.int a1), some (.int a2), o3, some (.int a4), o5, some (.int a6), some (.int a7), o8]) (S2 := [.int (((24 : Int32) * a2) + a4), .ref 152]) (pc2 := 92) op197_91 rfl rfl ?_
      refine rx_p (L2 := [some (.ref 115), some (.int a1), some (.int a2), o3, some (.int a4), o5, some (.int a6), some (.int a7), o8]) (S2 := [.int a7, .int (((24 : Int32) * a2) + a4), .ref 152]) (pc2 := 94) op197_92 rfl rfl ?_
      refine rx_p (L2 := [some (.ref 115), some (.int a1), some (.int a2), o3, some (.int a4), o5, some (.int a6), some (.int a7), o8]) (S2 := [.int ((((24 : Int32) * a2) + a4) + a7), .ref 152]) (pc2 := 95) op197_94 rfl rfl ?_
      obtain ⟨k25, h⟩ := rq_chk h
      refine rx_ia (pc2 := 96) op197_95 (rn_shlt sp_152) sp_152 k25 rfl rfl ?_
      obtain ⟨x26, ex26, h⟩ := rq_bv h
      refine rx_s (v := x26) (L2 := [some (.ref 115), some (.int a1), some (.int a2), o3, some (.int a4), o5, some (.int a6), some (.int a7), some (.int x26)]) (pc2 := 98) op197_96 ex26 rfl rfl ?_
      refine rx_p (L2 := [some (.ref 115), some (.int a1), some (.int a2), o3, some (.int a4), o5, some (.int a6), some (.int a7), some (.int x26)]) (S2 := [.ref 115]) (pc2 := 99) op197_98 rfl rfl ?_
      refine rx_p (L2 := [some (.ref 115), some (.int a1), some (.int a2), o3, some (.int a4), o5, some (.int a6), some (.int a7), some (.int x26)]) (S2 := [.int x26, .ref 115]) (pc2 := 101) op197_99 rfl rfl ?_
      obtain ⟨⟨r28, m27⟩, f29, h⟩ := rq_bind h
      try dsimp only at h
      refine ry_iv (p := 115) (vs := [.int x26]) (T := []) (pc2 := 104) op197_101 ms_169 (by decide) rfl rfl (Nat.le_of_ble_eq_true rfl) (Nat.le_of_ble_eq_true rfl) sp_115 (mo_isInPack_ok xs (by omega)  f29) rfl ?_
      show rn_R _ _ _ _ _ [.int r28] _ _ _
      refine ry_if_eq (tgt := 118) (pc2 := 107) op197_104 (by decide) (by decide) rfl (fun b30 => ?_) (fun b30 => ?_)
      · have h := (if_pos b30).symm.trans h
        refine rx_p (L2 := [some (.ref 115), some (.int a1), some (.int a2), o3, some (.int a4), o5, some (.int a6), some (.int a7), some (.int x26)]) (S2 := [.int a7]) (pc2 := 120) op197_118 rfl rfl ?_
        cases h
        obtain ⟨rfl, rfl⟩ := hl _ _ rfl
        exact ry_ri op197_120 ms_197 rfl
      · have h := (if_neg b30).symm.trans h
        refine rx_p (L2 := [some (.ref 115), some (.int a1), some (.int a2), o3, some (.int a4), o5, some (.int a6), some (.int a7), some (.int x26)]) (S2 := [.int a6]) (pc2 := 109) op197_107 rfl rfl ?_
        refine rx_p (L2 := [some (.ref 115), some (.int a1), some (.int a2), o3, some (.int a4), o5, some (.int a6), some (.int a7), some (.int x26)]) (S2 := [.int x26, .int a6]) (pc2 := 111) op197_109 rfl rfl ?_
        refine rx_p (L2 := [some (.ref 115), some (.int a1), some (.int a2), o3, some (.int a4), o5, some (.int a6), some (.int a7), some (.int x26)]) (S2 := [.int (a6 >>> (x26 &&& 31))]) (pc2 := 112) op197_111 rfl rfl ?_
        refine rx_ic (v := 1) (pc2 := 113) op197_112 (by decide) rfl ?_
        refine rx_p (L2 := [some (.ref 115), some (.int a1), some (.int a2), o3, some (.int a4), o5, some (.int a6), some (.int a7), some (.int x26)]) (S2 := [.int ((a6 >>> (x26 &&& 31)) &&& 1)]) (pc2 := 114) op197_113 rfl rfl ?_
        refine rx_ic (v := 1) (pc2 := 115) op197_114 (by decide) rfl ?_
        refine ry_ic_ne (tgt := 121) (pc2 := 118) op197_115 (by decide) (by decide) rfl (fun b31 => ?_) (fun b31 => ?_)
        · have h := (if_pos b31).symm.trans h
          refine rx_p (L2 := [some (.ref 115), some (.int a1), some (.int a2), o3, some (.int a4), o5, some (.int a6), some (.int a7), some (.int x26)]) (S2 := [.int a7]) (pc2 := 120) op197_118 rfl rfl ?_
          cases h
          obtain ⟨rfl, rfl⟩ := hl _ _ rfl
          exact ry_ri op197_120 ms_197 rfl
        · have h := (if_neg b31).symm.trans h
          refine rx_p (L2 := [some (.ref 115), some (.int a1), some (.int a2), o3, some (.int a4), o5, some (.int a6), some (.int a7), some (.int x26)]) (S2 := [.int a6]) (pc2 := 123) op197_121 rfl rfl ?_
          refine rx_ic (v := 1) (pc2 := 124) op197_123 (by decide) rfl ?_
          refine rx_p (L2 := [some (.ref 115), some (.int a1), some (.int a2), o3, some (.int a4), o5, some (.int a6), some (.int a7), some (.int x26)]) (S2 := [.int x26, .int 1, .int a6]) (pc2 := 126) op197_124 rfl rfl ?_
          refine rx_p (L2 := [some (.ref 115), some (.int a1), some (.int a2), o3, some (.int a4), o5, some (.int a6), some (.int a7), some (.int x26)]) (S2 := [.int ((1 : Int32) <<< (x26 &&& 31)), .int a6]) (pc2 := 127) op197_126 rfl rfl ?_
          refine rx_p (L2 := [some (.ref 115), some (.int a1), some (.int a2), o3, some (.int a4), o5, some (.int a6), some (.int a7), some (.int x26)]) (S2 := [.int (a6 ||| ((1 : Int32) <<< (x26 &&& 31)))]) (pc2 := 128) op197_127 rfl rfl ?_
          obtain ⟨x33, ex33, h⟩ := rq_bv h
          refine rx_sd (v := x33) (j := 5) (pc2 := 130) op197_128 rfl ex33 (Nat.le_of_ble_eq_true rfl) rfl (fun o32 => ?_)
          show rn_R _ _ _ _ [some (.ref 115), some (.int a1), some (.int a2), o3, some (.int a4), o32, some (.int x33), some (.int a7), some (.int x26)] _ _ _ _
          refine rx_p (L2 := [some (.ref 115), some (.int a1), some (.int a2), o3, some (.int a4), o32, some (.int x33), some (.int a7), some (.int x26)]) (S2 := [.ref 115]) (pc2 := 131) op197_130 rfl rfl ?_
          refine rx_gf (v := .ref 138) (pc2 := 134) op197_131 sp_115 rfl rfl rfl ?_
          refine rx_p (L2 := [some (.ref 115), some (.int a1), some (.int a2), o3, some (.int a4), o32, some (.int x33), some (.int a7), some (.int x26)]) (S2 := [.int a7, .ref 138]) (pc2 := 136) op197_134 rfl rfl ?_
          refine rx_p (L2 := [some (.ref 115), some (.int a1), some (.int a2), o3, some (.int a4), o32, some (.int x33), some (.int a7), some (.int x26)]) (S2 := [.int x26, .int a7, .ref 138]) (pc2 := 138) op197_136 rfl rfl ?_
          obtain ⟨k35, h⟩ := rq_chk h
          obtain ⟨m34, em34, h⟩ := rq_bv h
          refine rx_is (m2 := m34) (pc2 := 139) op197_138 sp_138 k35 rfl em34 rfl ?_
          obtain ⟨x36, ex36, h⟩ := rq_bv h
          refine rx_inc (w := 1) (v := x36) (L2 := [some (.ref 115), some (.int a1), some (.int a2), o3, some (.int a4), o32, some (.int x33), some (.int x36), some (.int x26)]) (pc2 := 142) op197_139 rfl (by decide) ex36 rfl rfl ?_
          refine ry_go (tgt := 72) op197_142 (by decide) (by decide) ?_
          exact ih _ _ _ _ _ _ h
    · have h := (if_neg b24).symm.trans h
      cases h
      exact hr _ rfl _ _ _ _ _ _ _
set_option maxHeartbeats 4000000 in
set_option maxRecDepth 20000 in
theorem mo_row_l161_ok (xs : List Int32) {d : Nat} (hd : 3 ≤ d + 1) {a1 : Int32} {r : Option Value} {τ : rn_H} {out : (Int32 × rn_Mem) ⊕ (rn_Mem)} (hl : ∀ (rO : Int32) (mO : rn_Mem), out = .inl (rO, mO) → r = (some (.int rO)) ∧ τ = (rn_SH, mO)) (hr : ∀ (mO : rn_Mem), out = .inr mO → ∀ (o2 o3 o4 o5 o6 o7 o8 : Option Value), rn_R xs (d + 1) 197 250 [some (.ref 115), some (.int a1), o2, o3, o4, o5, o6, o7, o8] [] (rn_SH, mO) r τ) : ∀ (n : Nat) (a7 : Int32) (o2 o3 o4 o5 o6 o8 : Option Value) (m : rn_Mem), mo_row_l161 a1 n a7 m = some out → rn_R xs (d + 1) 197 161 [some (.ref 115), some (.int a1), o2, o3, o4, o5, o6, some (.int a7), o8] [] (rn_SH, m) r τ := by
  intro n
  induction n with
  | zero =>
    intro _ _ _ _ _ _ _ _ h
    cases h
  | succ n ih =>
    intro a7 o2 o3 o4 o5 o6 o8 m h
    unfold mo_row_l161 at h
    try dsimp only at h
    refine rx_p (L2 := [some (.ref 115), some (.int a1), o2, o3, o4, o5, o6, some (.int a7), o8]) (S2 := [.int a7]) (pc2 := 163) op197_161 rfl rfl ?_
    refine rx_p (L2 := [some (.ref 115), some (.int a1), o2, o3, o4, o5, o6, some (.int a7), o8]) (S2 := [.ref 115, .int a7]) (pc2 := 164) op197_163 rfl rfl ?_
    obtain ⟨⟨r52, m51⟩, f53, h⟩ := rq_bind h
    try dsimp only at h
    refine ry_iv (p := 115) (vs := []) (T := [.int a7]) (pc2 := 167) op197_164 ms_155 (by decide) rfl rfl (Nat.le_of_ble_eq_true rfl) (Nat.le_of_ble_eq_true rfl) sp_115 (mo_size_ok xs (by omega)  f53) rfl ?_
    show rn_R _ _ _ _ _ [.int r52, .int a7] _ _ _
    refine ry_ic_ge (tgt := 250) (pc2 := 170) op197_167 (by decide) (by decide) rfl (fun b54 => ?_) (fun b54 => ?_)
    · have h := (if_pos b54).symm.trans h
      refine rx_p (L2 := [some (.ref 115), some (.int a1), o2, o3, o4, o5, o6, some (.int a7), o8]) (S2 := [.int a7]) (pc2 := 172) op197_170 rfl rfl ?_
      refine rx_p (L2 := [some (.ref 115), some (.int a1), o2, o3, o4, o5, o6, some (.int a7), o8]) (S2 := [.ref 115, .int a7]) (pc2 := 173) op197_172 rfl rfl ?_
      refine rx_gf (v := .ref 116) (pc2 := 176) op197_173 sp_115 rfl rfl rfl ?_
      refine rx_ic (v := 1) (pc2 := 177) op197_176 (by decide) rfl ?_
      refine rx_ia (j := 1) (pc2 := 178) op197_177 (rn_shlt sp_116) sp_116 (by decide) (by decide) rfl ?_
      obtain ⟨k55, h⟩ := rq_chk h
      refine rx_rem (v := rn_rem a7 (m51.1 116 1)) (pc2 := 179) op197_178 k55 rfl rfl ?_
      obtain ⟨x65, gc79, h⟩ := rq_bind h
      try dsimp only at h
      have c79 : ∀ (o59 o60 o61 o62 o63 o64 : Option Value), rn_R xs (d + 1) 197 204 [some (.ref 115), some (.int a1), o59, o60, o61, o62, o63, some (.int a7), o64] [.int x65] (rn_SH, m51) r τ := by
        intro o59 o60 o61 o62 o63 o64
        refine rx_s (L2 := [some (.ref 115), some (.int a1), o59, o60, o61, o62, o63, some (.int a7), some (.int x65)]) (pc2 := 206) op197_204 rfl rfl rfl ?_
        refine rx_p (L2 := [some (.ref 115), some (.int a1), o59, o60, o61, o62, o63, some (.int a7), some (.int x65)]) (S2 := [.ref 115]) (pc2 := 207) op197_206 rfl rfl ?_
        refine rx_p (L2 := [some (.ref 115), some (.int a1), o59, o60, o61, o62, o63, some (.int a7), some (.int x65)]) (S2 := [.ref 115, .ref 115]) (pc2 := 208) op197_207 rfl rfl ?_
        refine rx_p (L2 := [some (.ref 115), some (.int a1), o59, o60, o61, o62, o63, some (.int a7), some (.int x65)]) (S2 := [.ref 115, .ref 115, .ref 115]) (pc2 := 209) op197_208 rfl rfl ?_
        refine rx_gf (v := .ref 138) (pc2 := 212) op197_209 sp_115 rfl rfl rfl ?_
        refine rx_p (L2 := [some (.ref 115), some (.int a1), o59, o60, o61, o62, o63, some (.int a7), some (.int x65)]) (S2 := [.ref 115, .ref 138, .ref 115, .ref 115]) (pc2 := 213) op197_212 rfl rfl ?_
        refine rx_p (L2 := [some (.ref 115), some (.int a1), o59, o60, o61, o62, o63, some (.int a7), some (.int x65)]) (S2 := [.int a7, .ref 115, .ref 138, .ref 115, .ref 115]) (pc2 := 215) op197_213 rfl rfl ?_
        obtain ⟨⟨r67, m66⟩, f68, h⟩ := rq_bind h
        try dsimp only at h
        refine ry_iv (p := 115) (vs := [.int a7]) (T := [.ref 138, .ref 115, .ref 115]) (pc2 := 218) op197_215 ms_200 (by decide) rfl rfl (Nat.le_of_ble_eq_true rfl) (Nat.le_of_ble_eq_true rfl) sp_115 (mo_playerAt_ok xs (by omega)  f68) rfl ?_
        show rn_R _ _ _ _ _ [.int r67, .ref 138, .ref 115, .ref 115] _ _ _
        refine rx_p (L2 := [some (.ref 115), some (.int a1), o59, o60, o61, o62, o63, some (.int a7), some (.int x65)]) (S2 := [.int a7, .int r67, .ref 138, .ref 115, .ref 115]) (pc2 := 220) op197_218 rfl rfl ?_
        obtain ⟨⟨r70, m69⟩, f71, h⟩ := rq_bind h
        try dsimp only at h
        refine ry_iv (p := 115) (vs := [.ref 138, .int r67, .int a7]) (T := [.ref 115]) (pc2 := 223) op197_220 ms_201 (by decide) rfl rfl (Nat.le_of_ble_eq_true rfl) (Nat.le_of_ble_eq_true rfl) sp_115 (mo_handAt_ok xs (by omega) sr_138 f71) rfl ?_
        show rn_R _ _ _ _ _ [.int r70, .ref 115] _ _ _
        refine rx_p (L2 := [some (.ref 115), some (.int a1), o59, o60, o61, o62, o63, some (.int a7), some (.int x65)]) (S2 := [.int x65, .int r70, .ref 115]) (pc2 := 225) op197_223 rfl rfl ?_
        obtain ⟨⟨r73, m72⟩, f74, h⟩ := rq_bind h
        try dsimp only at h
        refine ry_iv (p := 115) (vs := [.int r70, .int x65]) (T := []) (pc2 := 228) op197_225 ms_202 (by decide) rfl rfl (Nat.le_of_ble_eq_true rfl) (Nat.le_of_ble_eq_true rfl) sp_115 (mo_lawful_ok xs (by omega)  f74) rfl ?_
        show rn_R _ _ _ _ _ [.int r73] _ _ _
        refine rx_p (L2 := [some (.ref 115), some (.int a1), o59, o60, o61, o62, o63, some (.int a7), some (.int x65)]) (S2 := [.ref 115, .int r73]) (pc2 := 229) op197_228 rfl rfl ?_
        refine rx_gf (v := .ref 138) (pc2 := 232) op197_229 sp_115 rfl rfl rfl ?_
        refine rx_p (L2 := [some (.ref 115), some (.int a1), o59, o60, o61, o62, o63, some (.int a7), some (.int x65)]) (S2 := [.int a7, .ref 138, .int r73]) (pc2 := 234) op197_232 rfl rfl ?_
        obtain ⟨k75, h⟩ := rq_chk h
        refine rx_ia (pc2 := 235) op197_234 (rn_shlt sp_138) sp_138 k75 rfl rfl ?_
        refine rx_p (L2 := [some (.ref 115), some (.int a1), o59, o60, o61, o62, o63, some (.int a7), some (.int x65)]) (S2 := [.int (r73 >>> ((m72.1 138 a7.toNatClampNeg) &&& 31))]) (pc2 := 236) op197_235 rfl rfl ?_
        refine rx_ic (v := 1) (pc2 := 237) op197_236 (by decide) rfl ?_
        refine rx_p (L2 := [some (.ref 115), some (.int a1), o59, o60, o61, o62, o63, some (.int a7), some (.int x65)]) (S2 := [.int ((r73 >>> ((m72.1 138 a7.toNatClampNeg) &&& 31)) &&& 1)]) (pc2 := 238) op197_237 rfl rfl ?_
        refine ry_if_ne (tgt := 244) (pc2 := 241) op197_238 (by decide) (by decide) rfl (fun b76 => ?_) (fun b76 => ?_)
        · have h := (if_pos b76).symm.trans h
          refine rx_p (L2 := [some (.ref 115), some (.int a1), o59, o60, o61, o62, o63, some (.int a7), some (.int x65)]) (S2 := [.int a7]) (pc2 := 243) op197_241 rfl rfl ?_
          cases h
          obtain ⟨rfl, rfl⟩ := hl _ _ rfl
          exact ry_ri op197_243 ms_197 rfl
        · have h := (if_neg b76).symm.trans h
          obtain ⟨x77, ex77, h⟩ := rq_bv h
          refine rx_incd (w := 1) (v := x77) (j := 6) (pc2 := 247) op197_244 rfl (by decide) ex77 rfl (fun o78 => ?_)
          show rn_R _ _ _ _ [some (.ref 115), some (.int a1), o59, o60, o61, o62, o78, some (.int x77), some (.int x65)] _ _ _ _
          refine ry_go (tgt := 161) op197_247 (by decide) (by decide) ?_
          exact ih _ _ _ _ _ _ _ _ h
      refine ry_if_ne (tgt := 187) (pc2 := 182) op197_179 (by decide) (by decide) rfl (fun b56 => ?_) (fun b56 => ?_)
      · have gc79 := (if_pos b56).symm.trans gc79
        refine rx_bp (v := (-4)) (pc2 := 184) op197_182 (by decide) rfl ?_
        refine ry_go (tgt := 204) op197_184 (by decide) (by decide) ?_
        cases gc79
        exact c79 _ _ _ _ _ _
      · have gc79 := (if_neg b56).symm.trans gc79
        refine rx_p (L2 := [some (.ref 115), some (.int a1), o2, o3, o4, o5, o6, some (.int a7), o8]) (S2 := [.ref 115]) (pc2 := 188) op197_187 rfl rfl ?_
        refine rx_gf (v := .ref 138) (pc2 := 191) op197_188 sp_115 rfl rfl rfl ?_
        refine rx_p (L2 := [some (.ref 115), some (.int a1), o2, o3, o4, o5, o6, some (.int a7), o8]) (S2 := [.int a7, .ref 138]) (pc2 := 193) op197_191 rfl rfl ?_
        refine rx_p (L2 := [some (.ref 115), some (.int a1), o2, o3, o4, o5, o6, some (.int a7), o8]) (S2 := [.int a7, .int a7, .ref 138]) (pc2 := 195) op197_193 rfl rfl ?_
        refine rx_p (L2 := [some (.ref 115), some (.int a1), o2, o3, o4, o5, o6, some (.int a7), o8]) (S2 := [.ref 115, .int a7, .int a7, .ref 138]) (pc2 := 196) op197_195 rfl rfl ?_
        refine rx_gf (v := .ref 116) (pc2 := 199) op197_196 sp_115 rfl rfl rfl ?_
        refine rx_ic (v := 1) (pc2 := 200) op197_199 (by decide) rfl ?_
        refine rx_ia (j := 1) (pc2 := 201) op197_200 (rn_shlt sp_116) sp_116 (by decide) (by decide) rfl ?_
        obtain ⟨k57, gc79⟩ := rq_chk gc79
        refine rx_rem (v := rn_rem a7 (m51.1 116 1)) (pc2 := 202) op197_201 k57 rfl rfl ?_
        refine rx_p (L2 := [some (.ref 115), some (.int a1), o2, o3, o4, o5, o6, some (.int a7), o8]) (S2 := [.int (a7 - (rn_rem a7 (m51.1 116 1))), .ref 138]) (pc2 := 203) op197_202 rfl rfl ?_
        obtain ⟨k58, gc79⟩ := rq_chk gc79
        refine rx_ia (pc2 := 204) op197_203 (rn_shlt sp_138) sp_138 k58 rfl rfl ?_
        cases gc79
        exact c79 _ _ _ _ _ _
    · have h := (if_neg b54).symm.trans h
      cases h
      exact hr _ rfl _ _ _ _ _ _ _
set_option maxHeartbeats 4000000 in
set_option maxRecDepth 20000 in
theorem mo_row_l261_ok (xs : List Int32) {d : Nat} (hd : 3 ≤ d + 1) {r : Option Value} {τ : rn_H} {out : rn_Mem} (hr : ∀ (mO : rn_Mem), out = mO → ∀ (o1 o2 o3 o4 o5 o6 o7 o8 : Option Value), rn_R xs (d + 1) 197 293 [some (.ref 115), o1, o2, o3, o4, o5, o6, o7, o8] [] (rn_SH, mO) r τ) : ∀ (n : Nat) (a7 : Int32) (o1 o2 o3 o4 o5 o6 o8 : Option Value) (m : rn_Mem), mo_row_l261 n a7 m = some out → rn_R xs (d + 1) 197 261 [some (.ref 115), o1, o2, o3, o4, o5, o6, some (.int a7), o8] [] (rn_SH, m) r τ := by
  intro n
  induction n with
  | zero =>
    intro _ _ _ _ _ _ _ _ _ h
    cases h
  | succ n ih =>
    intro a7 o1 o2 o3 o4 o5 o6 o8 m h
    unfold mo_row_l261 at h
    try dsimp only at h
    refine rx_p (L2 := [some (.ref 115), o1, o2, o3, o4, o5, o6, some (.int a7), o8]) (S2 := [.int a7]) (pc2 := 263) op197_261 rfl rfl ?_
    refine rx_p (L2 := [some (.ref 115), o1, o2, o3, o4, o5, o6, some (.int a7), o8]) (S2 := [.ref 115, .int a7]) (pc2 := 264) op197_263 rfl rfl ?_
    obtain ⟨⟨r91, m90⟩, f92, h⟩ := rq_bind h
    try dsimp only at h
    refine ry_iv (p := 115) (vs := []) (T := [.int a7]) (pc2 := 267) op197_264 ms_155 (by decide) rfl rfl (Nat.le_of_ble_eq_true rfl) (Nat.le_of_ble_eq_true rfl) sp_115 (mo_size_ok xs (by omega)  f92) rfl ?_
    show rn_R _ _ _ _ _ [.int r91, .int a7] _ _ _
    refine ry_ic_ge (tgt := 293) (pc2 := 270) op197_267 (by decide) (by decide) rfl (fun b93 => ?_) (fun b93 => ?_)
    · have h := (if_pos b93).symm.trans h
      refine rx_p (L2 := [some (.ref 115), o1, o2, o3, o4, o5, o6, some (.int a7), o8]) (S2 := [.ref 115]) (pc2 := 271) op197_270 rfl rfl ?_
      refine rx_gf (v := .ref 116) (pc2 := 274) op197_271 sp_115 rfl rfl rfl ?_
      refine rx_bp (v := 89) (pc2 := 276) op197_274 (by decide) rfl ?_
      refine rx_p (L2 := [some (.ref 115), o1, o2, o3, o4, o5, o6, some (.int a7), o8]) (S2 := [.int a7, .int 89, .ref 116]) (pc2 := 278) op197_276 rfl rfl ?_
      refine rx_p (L2 := [some (.ref 115), o1, o2, o3, o4, o5, o6, some (.int a7), o8]) (S2 := [.int ((89 : Int32) + a7), .ref 116]) (pc2 := 279) op197_278 rfl rfl ?_
      refine rx_p (L2 := [some (.ref 115), o1, o2, o3, o4, o5, o6, some (.int a7), o8]) (S2 := [.ref 115, .int ((89 : Int32) + a7), .ref 116]) (pc2 := 280) op197_279 rfl rfl ?_
      refine rx_gf (v := .ref 138) (pc2 := 283) op197_280 sp_115 rfl rfl rfl ?_
      refine rx_p (L2 := [some (.ref 115), o1, o2, o3, o4, o5, o6, some (.int a7), o8]) (S2 := [.int a7, .ref 138, .int ((89 : Int32) + a7), .ref 116]) (pc2 := 285) op197_283 rfl rfl ?_
      obtain ⟨k94, h⟩ := rq_chk h
      refine rx_ia (pc2 := 286) op197_285 (rn_shlt sp_138) sp_138 k94 rfl rfl ?_
      obtain ⟨k96, h⟩ := rq_chk h
      obtain ⟨m95, em95, h⟩ := rq_bv h
      refine rx_is (m2 := m95) (pc2 := 287) op197_286 sp_116 k96 rfl em95 rfl ?_
      obtain ⟨x97, ex97, h⟩ := rq_bv h
      refine rx_incd (w := 1) (v := x97) (j := 6) (pc2 := 290) op197_287 rfl (by decide) ex97 rfl (fun o98 => ?_)
      show rn_R _ _ _ _ [some (.ref 115), o1, o2, o3, o4, o5, o98, some (.int x97), o8] _ _ _ _
      refine ry_go (tgt := 261) op197_290 (by decide) (by decide) ?_
      exact ih _ _ _ _ _ _ _ _ _ h
    · have h := (if_neg b93).symm.trans h
      cases h
      exact hr _ rfl _ _ _ _ _ _ _ _
set_option maxHeartbeats 4000000 in
set_option maxRecDepth 20000 in
theorem mo_row_ok (xs : List Int32) {d : Nat} (hd : 3 ≤ d) {n : Nat} {a1 : Int32} {a2 : Int32} {a3 : Int32} {a4 : Int32} {m mO : rn_Mem} {rO : Int32} (h : mo_row n a1 a2 a3 a4 m = some (rO, mO)) : rn_R xs d 197 0 (rn_ent 9 [.ref 115, .int a1, .int a2, .int a3, .int a4]) [] (rn_SH, m) (some (.int rO)) (rn_SH, mO) := by
  obtain ⟨d, rfl⟩ : ∃ e, d = e + 1 := ⟨d - 1, by omega⟩
  unfold mo_row at h
  show rn_R xs (d + 1) 197 0 [some (.ref 115), some (.int a1), some (.int a2), some (.int a3), some (.int a4), none, none, none, none] [] (rn_SH, m) (some (.int rO)) (rn_SH, mO)
  refine rx_p (L2 := [some (.ref 115), some (.int a1), some (.int a2), some (.int a3), some (.int a4), none, none, none, none]) (S2 := [.int a1]) (pc2 := 1) op197_0 rfl rfl ?_
  refine rx_p (L2 := [some (.ref 115), some (.int a1), some (.int a2), some (.int a3), some (.int a4), none, none, none, none]) (S2 := [.long (a1.toInt64)]) (pc2 := 2) op197_1 rfl rfl ?_
  refine rx_lc (v := 0) (pc2 := 3) op197_2 (by decide) rfl ?_
  refine rx_ld2 (v := 3) (pc2 := 6) op197_3 (by decide) rfl ?_
  obtain ⟨⟨r2, m1⟩, f3, h⟩ := rq_bind h
  try dsimp only at h
  refine ry_is (vs := [.long (a1.toInt64), .long 0, .long 3]) (T := []) (pc2 := 9) op197_6 (by decide) ms_147 (by decide) rfl rfl (Nat.le_of_ble_eq_true rfl) (Nat.le_of_ble_eq_true rfl) (mo_in_ok xs (by omega)  f3) rfl ?_
  show rn_R _ _ _ _ _ [.int r2] _ _ _
  refine ry_if_eq (tgt := 20) (pc2 := 12) op197_9 (by decide) (by decide) rfl (fun b4 => ?_) (fun b4 => ?_)
  · have h := (if_pos b4).symm.trans h
    refine rx_ic (v := (-1)) (pc2 := 21) op197_20 (by decide) rfl ?_
    obtain ⟨rfl, rfl⟩ := rq_ret h
    exact ry_ri op197_21 ms_197 rfl
  · have h := (if_neg b4).symm.trans h
    refine rx_p (L2 := [some (.ref 115), some (.int a1), some (.int a2), some (.int a3), some (.int a4), none, none, none, none]) (S2 := [.int a2]) (pc2 := 13) op197_12 rfl rfl ?_
    refine rx_p (L2 := [some (.ref 115), some (.int a1), some (.int a2), some (.int a3), some (.int a4), none, none, none, none]) (S2 := [.int a3, .int a2]) (pc2 := 14) op197_13 rfl rfl ?_
    obtain ⟨⟨r6, m5⟩, f7, h⟩ := rq_bind h
    try dsimp only at h
    refine ry_is (vs := [.int a2, .int a3]) (T := []) (pc2 := 17) op197_14 (by decide) ms_198 (by decide) rfl rfl (Nat.le_of_ble_eq_true rfl) (Nat.le_of_ble_eq_true rfl) (mo_isSheet_ok xs (by omega)  f7) rfl ?_
    show rn_R _ _ _ _ _ [.int r6] _ _ _
    refine ry_if_ne (tgt := 22) (pc2 := 20) op197_17 (by decide) (by decide) rfl (fun b8 => ?_) (fun b8 => ?_)
    · have h := (if_pos b8).symm.trans h
      refine rx_ic (v := (-1)) (pc2 := 21) op197_20 (by decide) rfl ?_
      obtain ⟨rfl, rfl⟩ := rq_ret h
      exact ry_ri op197_21 ms_197 rfl
    · have h := (if_neg b8).symm.trans h
      refine rx_p (L2 := [some (.ref 115), some (.int a1), some (.int a2), some (.int a3), some (.int a4), none, none, none, none]) (S2 := [.ref 115]) (pc2 := 23) op197_22 rfl rfl ?_
      refine rx_gf (v := .ref 116) (pc2 := 26) op197_23 sp_115 rfl rfl rfl ?_
      refine rx_ic (v := 0) (pc2 := 27) op197_26 (by decide) rfl ?_
      refine rx_ia (j := 0) (pc2 := 28) op197_27 (rn_shlt sp_116) sp_116 (by decide) (by decide) rfl ?_
      refine ry_if_ne (tgt := 34) (pc2 := 31) op197_28 (by decide) (by decide) rfl (fun b9 => ?_) (fun b9 => ?_)
      · have h := (if_pos b9).symm.trans h
        refine rx_bp (v := (-2)) (pc2 := 33) op197_31 (by decide) rfl ?_
        obtain ⟨rfl, rfl⟩ := rq_ret h
        exact ry_ri op197_33 ms_197 rfl
      · have h := (if_neg b9).symm.trans h
        refine rx_p (L2 := [some (.ref 115), some (.int a1), some (.int a2), some (.int a3), some (.int a4), none, none, none, none]) (S2 := [.ref 115]) (pc2 := 35) op197_34 rfl rfl ?_
        refine rx_p (L2 := [some (.ref 115), some (.int a1), some (.int a2), some (.int a3), some (.int a4), none, none, none, none]) (S2 := [.int a1, .ref 115]) (pc2 := 36) op197_35 rfl rfl ?_
        obtain ⟨⟨r11, m10⟩, f12, h⟩ := rq_bind h
        try dsimp only at h
        refine ry_iv (p := 115) (vs := [.int a1]) (T := []) (pc2 := 39) op197_36 ms_167 (by decide) rfl rfl (Nat.le_of_ble_eq_true rfl) (Nat.le_of_ble_eq_true rfl) sp_115 (mo_isChair_ok xs (by omega)  f12) rfl ?_
        show rn_R _ _ _ _ _ [.int r11] _ _ _
        refine ry_if_ne (tgt := 44) (pc2 := 42) op197_39 (by decide) (by decide) rfl (fun b13 => ?_) (fun b13 => ?_)
        · have h := (if_pos b13).symm.trans h
          refine rx_ic (v := (-1)) (pc2 := 43) op197_42 (by decide) rfl ?_
          obtain ⟨rfl, rfl⟩ := rq_ret h
          exact ry_ri op197_43 ms_197 rfl
        · have h := (if_neg b13).symm.trans h
          refine rx_p (L2 := [some (.ref 115), some (.int a1), some (.int a2), some (.int a3), some (.int a4), none, none, none, none]) (S2 := [.ref 115]) (pc2 := 45) op197_44 rfl rfl ?_
          refine rx_p (L2 := [some (.ref 115), some (.int a1), some (.int a2), some (.int a3), some (.int a4), none, none, none, none]) (S2 := [.int a2, .ref 115]) (pc2 := 46) op197_45 rfl rfl ?_
          refine rx_p (L2 := [some (.ref 115), some (.int a1), some (.int a2), some (.int a3), some (.int a4), none, none, none, none]) (S2 := [.int a3, .int a2, .ref 115]) (pc2 := 47) op197_46 rfl rfl ?_
          refine rx_p (L2 := [some (.ref 115), some (.int a1), some (.int a2), some (.int a3), some (.int a4), none, none, none, none]) (S2 := [.int a4, .int a3, .int a2, .ref 115]) (pc2 := 49) op197_47 rfl rfl ?_
          refine rx_p (L2 := [some (.ref 115), some (.int a1), some (.int a2), some (.int a3), some (.int a4), none, none, none, none]) (S2 := [.ref 115, .int a4, .int a3, .int a2, .ref 115]) (pc2 := 50) op197_49 rfl rfl ?_
          obtain ⟨⟨r15, m14⟩, f16, h⟩ := rq_bind h
          try dsimp only at h
          refine ry_iv (p := 115) (vs := []) (T := [.int a4, .int a3, .int a2, .ref 115]) (pc2 := 53) op197_50 ms_155 (by decide) rfl rfl (Nat.le_of_ble_eq_true rfl) (Nat.le_of_ble_eq_true rfl) sp_115 (mo_size_ok xs (by omega)  f16) rfl ?_
          show rn_R _ _ _ _ _ [.int r15, .int a4, .int a3, .int a2, .ref 115] _ _ _
          obtain ⟨⟨r18, m17⟩, f19, h⟩ := rq_bind h
          try dsimp only at h
          refine ry_iv (p := 115) (vs := [.int a2, .int a3, .int a4, .int r15]) (T := []) (pc2 := 56) op197_53 ms_199 (by decide) rfl rfl (Nat.le_of_ble_eq_true rfl) (Nat.le_of_ble_eq_true rfl) sp_115 (mo_lacksRow_ok xs (by omega)  f19) rfl ?_
          show rn_R _ _ _ _ _ [.int r18] _ _ _
          refine rx_s (L2 := [some (.ref 115), some (.int a1), some (.int a2), some (.int a3), some (.int a4), some (.int r18), none, none, none]) (pc2 := 58) op197_56 rfl rfl rfl ?_
          refine rx_p (L2 := [some (.ref 115), some (.int a1), some (.int a2), some (.int a3), some (.int a4), some (.int r18), none, none, none]) (S2 := [.int r18]) (pc2 := 60) op197_58 rfl rfl ?_
          refine ry_if_ge (tgt := 66) (pc2 := 63) op197_60 (by decide) (by decide) rfl (fun b20 => ?_) (fun b20 => ?_)
          · have h := (if_pos b20).symm.trans h
            refine rx_p (L2 := [some (.ref 115), some (.int a1), some (.int a2), some (.int a3), some (.int a4), some (.int r18), none, none, none]) (S2 := [.int r18]) (pc2 := 65) op197_63 rfl rfl ?_
            obtain ⟨rfl, rfl⟩ := rq_ret h
            exact ry_ri op197_65 ms_197 rfl
          · have h := (if_neg b20).symm.trans h
            refine rx_ic (v := 0) (pc2 := 67) op197_66 (by decide) rfl ?_
            refine rx_s (L2 := [some (.ref 115), some (.int a1), some (.int a2), some (.int a3), some (.int a4), some (.int r18), some (.int 0), none, none]) (pc2 := 69) op197_67 rfl rfl rfl ?_
            refine rx_ic (v := 0) (pc2 := 70) op197_69 (by decide) rfl ?_
            refine rx_s (L2 := [some (.ref 115), some (.int a1), some (.int a2), some (.int a3), some (.int a4), some (.int r18), some (.int 0), some (.int 0), none]) (pc2 := 72) op197_70 rfl rfl rfl ?_
            obtain ⟨wf111, f111, h⟩ := rq_bind h
            refine mo_row_l72_ok xs hd (fun v0 m0 eq => ?_) (fun m37 eq => ?_) _ _ _ _ _ _ _  f111
            · subst eq
              try dsimp only at h
              cases h
              exact ⟨rfl, rfl⟩
            · subst eq
              try dsimp only at h
              intro o38 o39 o40 o41 o42 o43 o44
              refine rx_p (L2 := [some (.ref 115), some (.int a1), o38, o39, o40, o41, o42, o43, o44]) (S2 := [.ref 115]) (pc2 := 146) op197_145 rfl rfl ?_
              refine rx_p (L2 := [some (.ref 115), some (.int a1), o38, o39, o40, o41, o42, o43, o44]) (S2 := [.ref 115, .ref 115]) (pc2 := 147) op197_146 rfl rfl ?_
              refine rx_gf (v := .ref 138) (pc2 := 150) op197_147 sp_115 rfl rfl rfl ?_
              refine rx_p (L2 := [some (.ref 115), some (.int a1), o38, o39, o40, o41, o42, o43, o44]) (S2 := [.int a1, .ref 138, .ref 115]) (pc2 := 151) op197_150 rfl rfl ?_
              refine rx_p (L2 := [some (.ref 115), some (.int a1), o38, o39, o40, o41, o42, o43, o44]) (S2 := [.ref 115, .int a1, .ref 138, .ref 115]) (pc2 := 152) op197_151 rfl rfl ?_
              obtain ⟨⟨r46, m45⟩, f47, h⟩ := rq_bind h
              try dsimp only at h
              refine ry_iv (p := 115) (vs := []) (T := [.int a1, .ref 138, .ref 115]) (pc2 := 155) op197_152 ms_155 (by decide) rfl rfl (Nat.le_of_ble_eq_true rfl) (Nat.le_of_ble_eq_true rfl) sp_115 (mo_size_ok xs (by omega)  f47) rfl ?_
              show rn_R _ _ _ _ _ [.int r46, .int a1, .ref 138, .ref 115] _ _ _
              obtain ⟨m48, f49, h⟩ := rq_bind h
              try dsimp only at h
              refine ry_iv (p := 115) (vs := [.ref 138, .int a1, .int r46]) (T := []) (pc2 := 158) op197_155 ms_160 (by decide) rfl rfl (Nat.le_of_ble_eq_true rfl) (Nat.le_of_ble_eq_true rfl) sp_115 (mo_findLeaders_ok xs (by omega) sr_138 f49) rfl ?_
              show rn_R _ _ _ _ _ [] _ _ _
              refine rx_ic (v := 0) (pc2 := 159) op197_158 (by decide) rfl ?_
              refine rx_sd (v := 0) (j := 6) (pc2 := 161) op197_159 rfl rfl (Nat.le_of_ble_eq_true rfl) rfl (fun o50 => ?_)
              show rn_R _ _ _ _ [some (.ref 115), some (.int a1), o38, o39, o40, o41, o50, some (.int 0), o44] _ _ _ _
              obtain ⟨wf110, f110, h⟩ := rq_bind h
              refine mo_row_l161_ok xs hd (fun v0 m0 eq => ?_) (fun m80 eq => ?_) _ _ _ _ _ _ _ _ _  f110
              · subst eq
                try dsimp only at h
                cases h
                exact ⟨rfl, rfl⟩
              · subst eq
                try dsimp only at h
                intro o81 o82 o83 o84 o85 o86 o87
                refine rx_p (L2 := [some (.ref 115), some (.int a1), o81, o82, o83, o84, o85, o86, o87]) (S2 := [.ref 115]) (pc2 := 251) op197_250 rfl rfl ?_
                refine rx_gf (v := .ref 116) (pc2 := 254) op197_251 sp_115 rfl rfl rfl ?_
                refine rx_bp (v := 88) (pc2 := 256) op197_254 (by decide) rfl ?_
                refine rx_p (L2 := [some (.ref 115), some (.int a1), o81, o82, o83, o84, o85, o86, o87]) (S2 := [.int a1, .int 88, .ref 116]) (pc2 := 257) op197_256 rfl rfl ?_
                obtain ⟨m88, em88, h⟩ := rq_bv h
                refine rx_is (j := 88) (m2 := m88) (pc2 := 258) op197_257 sp_116 (by decide) (by decide) em88 rfl ?_
                refine rx_ic (v := 0) (pc2 := 259) op197_258 (by decide) rfl ?_
                refine rx_sd (v := 0) (j := 6) (pc2 := 261) op197_259 rfl rfl (Nat.le_of_ble_eq_true rfl) rfl (fun o89 => ?_)
                show rn_R _ _ _ _ [some (.ref 115), some (.int a1), o81, o82, o83, o84, o89, some (.int 0), o87] _ _ _ _
                obtain ⟨m99, f109, h⟩ := rq_bind h
                refine mo_row_l261_ok xs hd (fun m0 eq => ?_) _ _ _ _ _ _ _ _ _ _  f109
                subst eq
                try dsimp only at h
                intro o100 o101 o102 o103 o104 o105 o106 o107
                refine rx_p (L2 := [some (.ref 115), o100, o101, o102, o103, o104, o105, o106, o107]) (S2 := [.ref 115]) (pc2 := 294) op197_293 rfl rfl ?_
                refine rx_gf (v := .ref 116) (pc2 := 297) op197_294 sp_115 rfl rfl rfl ?_
                refine rx_bp (v := 11) (pc2 := 299) op197_297 (by decide) rfl ?_
                refine rx_ic (v := 1) (pc2 := 300) op197_299 (by decide) rfl ?_
                obtain ⟨m108, em108, h⟩ := rq_bv h
                refine rx_is (j := 11) (m2 := m108) (pc2 := 301) op197_300 sp_116 (by decide) (by decide) em108 rfl ?_
                refine rx_bp (v := (-4)) (pc2 := 303) op197_301 (by decide) rfl ?_
                obtain ⟨rfl, rfl⟩ := rq_ret h
                exact ry_ri op197_303 ms_197 rfl
/-! mo_isAlike -/
theorem op204_0 : rn_op 204 0 = some (.aload_n 0, 1, 0, 0, 0) := by decide +kernel
theorem op204_1 : rn_op 204 1 = some (.getfield 7, 3, 11, 0, 3) := by decide +kernel
theorem op204_4 : rn_op 204 4 = some (.iconst 1, 1, 0, 0, 0) := by decide +kernel
theorem op204_5 : rn_op 204 5 = some (.iaload, 1, 0, 0, 0) := by decide +kernel
theorem op204_6 : rn_op 204 6 = some (.istore 4, 2, 0, 0, 0) := by decide +kernel
theorem op204_8 : rn_op 204 8 = some (.iconst 1, 1, 0, 0, 0) := by decide +kernel
theorem op204_9 : rn_op 204 9 = some (.istore 5, 2, 0, 0, 0) := by decide +kernel
theorem op204_11 : rn_op 204 11 = some (.iconst 0, 1, 0, 0, 0) := by decide +kernel
theorem op204_12 : rn_op 204 12 = some (.istore 6, 2, 0, 0, 0) := by decide +kernel
theorem op204_14 : rn_op 204 14 = some (.iload 6, 2, 0, 0, 0) := by decide +kernel
theorem op204_16 : rn_op 204 16 = some (.iload 4, 2, 0, 0, 0) := by decide +kernel
theorem op204_18 : rn_op 204 18 = some (.if_icmp .ge 129, 3, 0, 0, 0) := by decide +kernel
theorem op204_21 : rn_op 204 21 = some (.aload_n 0, 1, 0, 0, 0) := by decide +kernel
theorem op204_22 : rn_op 204 22 = some (.getfield 7, 3, 11, 0, 3) := by decide +kernel
theorem op204_25 : rn_op 204 25 = some (.bipush 16, 2, 0, 0, 0) := by decide +kernel
theorem op204_27 : rn_op 204 27 = some (.bipush 12, 2, 0, 0, 0) := by decide +kernel
theorem op204_29 : rn_op 204 29 = some (.iload_n 2, 1, 0, 0, 0) := by decide +kernel
theorem op204_30 : rn_op 204 30 = some (.imul, 1, 0, 0, 0) := by decide +kernel
theorem op204_31 : rn_op 204 31 = some (.iadd, 1, 0, 0, 0) := by decide +kernel
theorem op204_32 : rn_op 204 32 = some (.iload_n 3, 1, 0, 0, 0) := by decide +kernel
theorem op204_33 : rn_op 204 33 = some (.iadd, 1, 0, 0, 0) := by decide +kernel
theorem op204_34 : rn_op 204 34 = some (.iload 6, 2, 0, 0, 0) := by decide +kernel
theorem op204_36 : rn_op 204 36 = some (.iadd, 1, 0, 0, 0) := by decide +kernel
theorem op204_37 : rn_op 204 37 = some (.iaload, 1, 0, 0, 0) := by decide +kernel
theorem op204_38 : rn_op 204 38 = some (.istore 7, 2, 0, 0, 0) := by decide +kernel
theorem op204_40 : rn_op 204 40 = some (.iconst 0, 1, 0, 0, 0) := by decide +kernel
theorem op204_41 : rn_op 204 41 = some (.istore 8, 2, 0, 0, 0) := by decide +kernel
theorem op204_43 : rn_op 204 43 = some (.iconst 0, 1, 0, 0, 0) := by decide +kernel
theorem op204_44 : rn_op 204 44 = some (.istore 9, 2, 0, 0, 0) := by decide +kernel
theorem op204_46 : rn_op 204 46 = some (.iload 9, 2, 0, 0, 0) := by decide +kernel
theorem op204_48 : rn_op 204 48 = some (.iload 4, 2, 0, 0, 0) := by decide +kernel
theorem op204_50 : rn_op 204 50 = some (.if_icmp .ge 38, 3, 0, 0, 0) := by decide +kernel
theorem op204_53 : rn_op 204 53 = some (.iload 8, 2, 0, 0, 0) := by decide +kernel
theorem op204_55 : rn_op 204 55 = some (.ifCond .ne 20, 3, 0, 0, 0) := by decide +kernel
theorem op204_58 : rn_op 204 58 = some (.aload_n 0, 1, 0, 0, 0) := by decide +kernel
theorem op204_59 : rn_op 204 59 = some (.getfield 85, 3, 11, 38, 3) := by decide +kernel
theorem op204_62 : rn_op 204 62 = some (.iload 4, 2, 0, 0, 0) := by decide +kernel
theorem op204_64 : rn_op 204 64 = some (.iload_n 1, 1, 0, 0, 0) := by decide +kernel
theorem op204_65 : rn_op 204 65 = some (.imul, 1, 0, 0, 0) := by decide +kernel
theorem op204_66 : rn_op 204 66 = some (.iload 9, 2, 0, 0, 0) := by decide +kernel
theorem op204_68 : rn_op 204 68 = some (.iadd, 1, 0, 0, 0) := by decide +kernel
theorem op204_69 : rn_op 204 69 = some (.iaload, 1, 0, 0, 0) := by decide +kernel
theorem op204_70 : rn_op 204 70 = some (.iload 7, 2, 0, 0, 0) := by decide +kernel
theorem op204_72 : rn_op 204 72 = some (.if_icmp .ne 7, 3, 0, 0, 0) := by decide +kernel
theorem op204_75 : rn_op 204 75 = some (.iconst 1, 1, 0, 0, 0) := by decide +kernel
theorem op204_76 : rn_op 204 76 = some (.goto 4, 3, 0, 0, 0) := by decide +kernel
theorem op204_79 : rn_op 204 79 = some (.iconst 0, 1, 0, 0, 0) := by decide +kernel
theorem op204_80 : rn_op 204 80 = some (.istore 8, 2, 0, 0, 0) := by decide +kernel
theorem op204_82 : rn_op 204 82 = some (.iinc 9 1, 3, 0, 0, 0) := by decide +kernel
theorem op204_85 : rn_op 204 85 = some (.goto (-39), 3, 0, 0, 0) := by decide +kernel
theorem op204_88 : rn_op 204 88 = some (.iload 5, 2, 0, 0, 0) := by decide +kernel
theorem op204_90 : rn_op 204 90 = some (.ifCond .eq 48, 3, 0, 0, 0) := by decide +kernel
theorem op204_93 : rn_op 204 93 = some (.iload 7, 2, 0, 0, 0) := by decide +kernel
theorem op204_95 : rn_op 204 95 = some (.ifCond .lt 39, 3, 0, 0, 0) := by decide +kernel
theorem op204_98 : rn_op 204 98 = some (.aload_n 0, 1, 0, 0, 0) := by decide +kernel
theorem op204_99 : rn_op 204 99 = some (.getfield 7, 3, 11, 0, 3) := by decide +kernel
theorem op204_102 : rn_op 204 102 = some (.bipush 7, 2, 0, 0, 0) := by decide +kernel
theorem op204_104 : rn_op 204 104 = some (.iaload, 1, 0, 0, 0) := by decide +kernel
theorem op204_105 : rn_op 204 105 = some (.iconst 1, 1, 0, 0, 0) := by decide +kernel
theorem op204_106 : rn_op 204 106 = some (.if_icmp .ne 11, 3, 0, 0, 0) := by decide +kernel
theorem op204_109 : rn_op 204 109 = some (.iload 8, 2, 0, 0, 0) := by decide +kernel
theorem op204_111 : rn_op 204 111 = some (.ifCond .eq 27, 3, 0, 0, 0) := by decide +kernel
theorem op204_114 : rn_op 204 114 = some (.goto 20, 3, 0, 0, 0) := by decide +kernel
theorem op204_117 : rn_op 204 117 = some (.aload_n 0, 1, 0, 0, 0) := by decide +kernel
theorem op204_118 : rn_op 204 118 = some (.getfield 85, 3, 11, 38, 3) := by decide +kernel
theorem op204_121 : rn_op 204 121 = some (.iload 4, 2, 0, 0, 0) := by decide +kernel
theorem op204_123 : rn_op 204 123 = some (.iload_n 1, 1, 0, 0, 0) := by decide +kernel
theorem op204_124 : rn_op 204 124 = some (.imul, 1, 0, 0, 0) := by decide +kernel
theorem op204_125 : rn_op 204 125 = some (.iload 6, 2, 0, 0, 0) := by decide +kernel
theorem op204_127 : rn_op 204 127 = some (.iadd, 1, 0, 0, 0) := by decide +kernel
theorem op204_128 : rn_op 204 128 = some (.iaload, 1, 0, 0, 0) := by decide +kernel
theorem op204_129 : rn_op 204 129 = some (.iload 7, 2, 0, 0, 0) := by decide +kernel
theorem op204_131 : rn_op 204 131 = some (.if_icmp .ne 7, 3, 0, 0, 0) := by decide +kernel
theorem op204_134 : rn_op 204 134 = some (.iconst 1, 1, 0, 0, 0) := by decide +kernel
theorem op204_135 : rn_op 204 135 = some (.goto 4, 3, 0, 0, 0) := by decide +kernel
theorem op204_138 : rn_op 204 138 = some (.iconst 0, 1, 0, 0, 0) := by decide +kernel
theorem op204_139 : rn_op 204 139 = some (.istore 5, 2, 0, 0, 0) := by decide +kernel
theorem op204_141 : rn_op 204 141 = some (.iinc 6 1, 3, 0, 0, 0) := by decide +kernel
theorem op204_144 : rn_op 204 144 = some (.goto (-130), 3, 0, 0, 0) := by decide +kernel
theorem op204_147 : rn_op 204 147 = some (.iload 5, 2, 0, 0, 0) := by decide +kernel
theorem op204_149 : rn_op 204 149 = some (.ireturn, 1, 0, 0, 0) := by decide +kernel
def mo_isAlike_l46 (a1 : Int32) (a2 : Int32) (a3 : Int32) (a4 : Int32) (a5 : Int32) (a6 : Int32) (a7 : Int32) : Nat → Int32 → Int32 → rn_Mem → Option (Int32 × rn_Mem)
  | 0, _, _, _ => none
  | n + 1, a8, a9, m =>
    if a9 < a4 then
      (show Option (Int32) from
        if a8 = 0 then
          if rn_in ((a4 * a1) + a9) 12 = true then
            if (m.1 141 ((a4 * a1) + a9).toNatClampNeg) = a7 then
              some (1)
            else
              some (0)
          else none
        else
          some (1)).bind fun x10 =>
      (some (a9 + 1)).bind fun (x11 : Int32) =>
      mo_isAlike_l46 a1 a2 a3 a4 a5 a6 a7 n x10 x11 m
    else
      some (a8, m)
def mo_isAlike_l14 (a1 : Int32) (a2 : Int32) (a3 : Int32) (a4 : Int32) : Nat → Int32 → Int32 → rn_Mem → Option (Int32 × rn_Mem)
  | 0, _, _, _ => none
  | n + 1, a5, a6, m =>
    if a6 < a4 then
      if rn_in ((((16 : Int32) + ((12 : Int32) * a2)) + a3) + a6) 101 = true then
        (some (m.1 116 ((((16 : Int32) + ((12 : Int32) * a2)) + a3) + a6).toNatClampNeg)).bind fun (x4 : Int32) =>
        (mo_isAlike_l46 a1 a2 a3 a4 a5 a6 x4 n 0 0 m).bind fun (x14, m13) =>
        (show Option (Int32) from
          if a5 = 0 then
            some (0)
          else
            if x4 < 0 then
              some (1)
            else
              if (m13.1 116 7) = 1 then
                if x14 = 0 then
                  some (0)
                else
                  some (1)
              else
                if rn_in ((a4 * a1) + a6) 12 = true then
                  if (m13.1 141 ((a4 * a1) + a6).toNatClampNeg) = x4 then
                    some (1)
                  else
                    some (0)
                else none).bind fun x26 =>
        (some (a6 + 1)).bind fun (x27 : Int32) =>
        mo_isAlike_l14 a1 a2 a3 a4 n x26 x27 m13
      else none
    else
      some (a5, m)
def mo_isAlike (n : Nat) (a1 : Int32) (a2 : Int32) (a3 : Int32) (m : rn_Mem) : Option (Int32 × rn_Mem) :=
  (some (m.1 116 1)).bind fun (x1 : Int32) =>
  (mo_isAlike_l14 a1 a2 a3 x1 n 1 0 m).bind fun (x36, m30) =>
  if x36 = 0 ∨ x36 = 1 then
    some (x36, m30)
  else none
set_option maxHeartbeats 4000000 in
set_option maxRecDepth 20000 in
theorem mo_isAlike_l46_ok (xs : List Int32) {d : Nat} {a1 : Int32} {a2 : Int32} {a3 : Int32} {a4 : Int32} {a5 : Int32} {a6 : Int32} {a7 : Int32} {r : Option Value} {τ : rn_H} {out : Int32 × rn_Mem} (hr : ∀ (z8 : Int32) (mO : rn_Mem), out = (z8, mO) → ∀ (o9 : Option Value), rn_R xs d 204 88 [some (.ref 115), some (.int a1), some (.int a2), some (.int a3), some (.int a4), some (.int a5), some (.int a6), some (.int a7), some (.int z8), o9] [] (rn_SH, mO) r τ) : ∀ (n : Nat) (a8 : Int32) (a9 : Int32) (m : rn_Mem), mo_isAlike_l46 a1 a2 a3 a4 a5 a6 a7 n a8 a9 m = some out → rn_R xs d 204 46 [some (.ref 115), some (.int a1), some (.int a2), some (.int a3), some (.int a4), some (.int a5), some (.int a6), some (.int a7), some (.int a8), some (.int a9)] [] (rn_SH, m) r τ := by
  intro n
  induction n with
  | zero =>
    intro _ _ _ h
    cases h
  | succ n ih =>
    intro a8 a9 m h
    unfold mo_isAlike_l46 at h
    try dsimp only at h
    refine rx_p (L2 := [some (.ref 115), some (.int a1), some (.int a2), some (.int a3), some (.int a4), some (.int a5), some (.int a6), some (.int a7), some (.int a8), some (.int a9)]) (S2 := [.int a9]) (pc2 := 48) op204_46 rfl rfl ?_
    refine rx_p (L2 := [some (.ref 115), some (.int a1), some (.int a2), some (.int a3), some (.int a4), some (.int a5), some (.int a6), some (.int a7), some (.int a8), some (.int a9)]) (S2 := [.int a4, .int a9]) (pc2 := 50) op204_48 rfl rfl ?_
    refine ry_ic_ge (tgt := 88) (pc2 := 53) op204_50 (by decide) (by decide) rfl (fun b5 => ?_) (fun b5 => ?_)
    · have h := (if_pos b5).symm.trans h
      refine rx_p (L2 := [some (.ref 115), some (.int a1), some (.int a2), some (.int a3), some (.int a4), some (.int a5), some (.int a6), some (.int a7), some (.int a8), some (.int a9)]) (S2 := [.int a8]) (pc2 := 55) op204_53 rfl rfl ?_
      obtain ⟨x10, gc12, h⟩ := rq_bind h
      try dsimp only at h
      have c12 : ∀ (o9 : Option Value), rn_R xs d 204 80 [some (.ref 115), some (.int a1), some (.int a2), some (.int a3), some (.int a4), some (.int a5), some (.int a6), some (.int a7), o9, some (.int a9)] [.int x10] (rn_SH, m) r τ := by
        intro o9
        refine rx_s (L2 := [some (.ref 115), some (.int a1), some (.int a2), some (.int a3), some (.int a4), some (.int a5), some (.int a6), some (.int a7), some (.int x10), some (.int a9)]) (pc2 := 82) op204_80 rfl rfl rfl ?_
        obtain ⟨x11, ex11, h⟩ := rq_bv h
        refine rx_inc (w := 1) (v := x11) (L2 := [some (.ref 115), some (.int a1), some (.int a2), some (.int a3), some (.int a4), some (.int a5), some (.int a6), some (.int a7), some (.int x10), some (.int x11)]) (pc2 := 85) op204_82 rfl (by decide) ex11 rfl rfl ?_
        refine ry_go (tgt := 46) op204_85 (by decide) (by decide) ?_
        exact ih _ _ _ h
      refine ry_if_ne (tgt := 75) (pc2 := 58) op204_55 (by decide) (by decide) rfl (fun b6 => ?_) (fun b6 => ?_)
      · have gc12 := (if_pos b6).symm.trans gc12
        refine rx_p (L2 := [some (.ref 115), some (.int a1), some (.int a2), some (.int a3), some (.int a4), some (.int a5), some (.int a6), some (.int a7), some (.int a8), some (.int a9)]) (S2 := [.ref 115]) (pc2 := 59) op204_58 rfl rfl ?_
        refine rx_gf (v := .ref 141) (pc2 := 62) op204_59 sp_115 rfl rfl rfl ?_
        refine rx_p (L2 := [some (.ref 115), some (.int a1), some (.int a2), some (.int a3), some (.int a4), some (.int a5), some (.int a6), some (.int a7), some (.int a8), some (.int a9)]) (S2 := [.int a4, .ref 141]) (pc2 := 64) op204_62 rfl rfl ?_
        refine rx_p (L2 := [some (.ref 115), some (.int a1), some (.int a2), some (.int a3), some (.int a4), some (.int a5), some (.int a6), some (.int a7), some (.int a8), some (.int a9)]) (S2 := [.int a1, .int a4, .ref 141]) (pc2 := 65) op204_64 rfl rfl ?_
        refine rx_p (L2 := [some (.ref 115), some (.int a1), some (.int a2), some (.int a3), some (.int a4), some (.int a5), some (.int a6), some (.int a7), some (.int a8), some (.int a9)]) (S2 := [.int (a4 * a1), .ref 141]) (pc2 := 66) op204_65 rfl rfl ?_
        refine rx_p (L2 := [some (.ref 115), some (.int a1), some (.int a2), some (.int a3), some (.int a4), some (.int a5), some (.int a6), some (.int a7), some (.int a8), some (.int a9)]) (S2 := [.int a9, .int (a4 * a1), .ref 141]) (pc2 := 68) op204_66 rfl rfl ?_
        refine rx_p (L2 := [some (.ref 115), some (.int a1), some (.int a2), some (.int a3), some (.int a4), some (.int a5), some (.int a6), some (.int a7), some (.int a8), some (.int a9)]) (S2 := [.int ((a4 * a1) + a9), .ref 141]) (pc2 := 69) op204_68 rfl rfl ?_
        obtain ⟨k7, gc12⟩ := rq_chk gc12
        refine rx_ia (pc2 := 70) op204_69 (rn_shlt sp_141) sp_141 k7 rfl rfl ?_
        refine rx_p (L2 := [some (.ref 115), some (.int a1), some (.int a2), some (.int a3), some (.int a4), some (.int a5), some (.int a6), some (.int a7), some (.int a8), some (.int a9)]) (S2 := [.int a7, .int (m.1 141 ((a4 * a1) + a9).toNatClampNeg)]) (pc2 := 72) op204_70 rfl rfl ?_
        refine ry_ic_ne (tgt := 79) (pc2 := 75) op204_72 (by decide) (by decide) rfl (fun b8 => ?_) (fun b8 => ?_)
        · have gc12 := (if_pos b8).symm.trans gc12
          refine rx_ic (v := 1) (pc2 := 76) op204_75 (by decide) rfl ?_
          refine ry_go (tgt := 80) op204_76 (by decide) (by decide) ?_
          cases gc12
          exact c12 _
        · have gc12 := (if_neg b8).symm.trans gc12
          refine rx_ic (v := 0) (pc2 := 80) op204_79 (by decide) rfl ?_
          cases gc12
          exact c12 _
      · have gc12 := (if_neg b6).symm.trans gc12
        refine rx_ic (v := 1) (pc2 := 76) op204_75 (by decide) rfl ?_
        refine ry_go (tgt := 80) op204_76 (by decide) (by decide) ?_
        cases gc12
        exact c12 _
    · have h := (if_neg b5).symm.trans h
      cases h
      exact hr _ _ rfl _
set_option maxHeartbeats 4000000 in
set_option maxRecDepth 20000 in
theorem mo_isAlike_l14_ok (xs : List Int32) {d : Nat} {a1 : Int32} {a2 : Int32} {a3 : Int32} {a4 : Int32} {r : Option Value} {τ : rn_H} {out : Int32 × rn_Mem} (hr : ∀ (z5 : Int32) (mO : rn_Mem), out = (z5, mO) → ∀ (o0 o1 o2 o3 o4 o6 o7 o8 o9 : Option Value), rn_R xs d 204 147 [o0, o1, o2, o3, o4, some (.int z5), o6, o7, o8, o9] [] (rn_SH, mO) r τ) : ∀ (n : Nat) (a5 : Int32) (a6 : Int32) (o7 o8 o9 : Option Value) (m : rn_Mem), mo_isAlike_l14 a1 a2 a3 a4 n a5 a6 m = some out → rn_R xs d 204 14 [some (.ref 115), some (.int a1), some (.int a2), some (.int a3), some (.int a4), some (.int a5), some (.int a6), o7, o8, o9] [] (rn_SH, m) r τ := by
  intro n
  induction n with
  | zero =>
    intro _ _ _ _ _ _ h
    cases h
  | succ n ih =>
    intro a5 a6 o7 o8 o9 m h
    unfold mo_isAlike_l14 at h
    try dsimp only at h
    refine rx_p (L2 := [some (.ref 115), some (.int a1), some (.int a2), some (.int a3), some (.int a4), some (.int a5), some (.int a6), o7, o8, o9]) (S2 := [.int a6]) (pc2 := 16) op204_14 rfl rfl ?_
    refine rx_p (L2 := [some (.ref 115), some (.int a1), some (.int a2), some (.int a3), some (.int a4), some (.int a5), some (.int a6), o7, o8, o9]) (S2 := [.int a4, .int a6]) (pc2 := 18) op204_16 rfl rfl ?_
    refine ry_ic_ge (tgt := 147) (pc2 := 21) op204_18 (by decide) (by decide) rfl (fun b2 => ?_) (fun b2 => ?_)
    · have h := (if_pos b2).symm.trans h
      refine rx_p (L2 := [some (.ref 115), some (.int a1), some (.int a2), some (.int a3), some (.int a4), some (.int a5), some (.int a6), o7, o8, o9]) (S2 := [.ref 115]) (pc2 := 22) op204_21 rfl rfl ?_
      refine rx_gf (v := .ref 116) (pc2 := 25) op204_22 sp_115 rfl rfl rfl ?_
      refine rx_bp (v := 16) (pc2 := 27) op204_25 (by decide) rfl ?_
      refine rx_bp (v := 12) (pc2 := 29) op204_27 (by decide) rfl ?_
      refine rx_p (L2 := [some (.ref 115), some (.int a1), some (.int a2), some (.int a3), some (.int a4), some (.int a5), some (.int a6), o7, o8, o9]) (S2 := [.int a2, .int 12, .int 16, .ref 116]) (pc2 := 30) op204_29 rfl rfl ?_
      refine rx_p (L2 := [some (.ref 115), some (.int a1), some (.int a2), some (.int a3), some (.int a4), some (.int a5), some (.int a6), o7, o8, o9]) (S2 := [.int ((12 : Int32) * a2), .int 16, .ref 116]) (pc2 := 31) op204_30 rfl rfl ?_
      refine rx_p (L2 := [some (.ref 115), some (.int a1), some (.int a2), some (.int a3), some (.int a4), some (.int a5), some (.int a6), o7, o8, o9]) (S2 := [.int ((16 : Int32) + ((12 : Int32) * a2)), .ref 116]) (pc2 := 32) op204_31 rfl rfl ?_
      refine rx_p (L2 := [some (.ref 115), some (.int a1), some (.int a2), some (.int a3), some (.int a4), some (.int a5), some (.int a6), o7, o8, o9]) (S2 := [.int a3, .int ((16 : Int32) + ((12 : Int32) * a2)), .ref 116]) (pc2 := 33) op204_32 rfl rfl ?_
      refine rx_p (L2 := [some (.ref 115), some (.int a1), some (.int a2), some (.int a3), some (.int a4), some (.int a5), some (.int a6), o7, o8, o9]) (S2 := [.int (((16 : Int32) + ((12 : Int32) * a2)) + a3), .ref 116]) (pc2 := 34) op204_33 rfl rfl ?_
      refine rx_p (L2 := [some (.ref 115), some (.int a1), some (.int a2), some (.int a3), some (.int a4), some (.int a5), some (.int a6), o7, o8, o9]) (S2 := [.int a6, .int (((16 : Int32) + ((12 : Int32) * a2)) + a3), .ref 116]) (pc2 := 36) op204_34 rfl rfl ?_
      refine rx_p (L2 := [some (.ref 115), some (.int a1), some (.int a2), some (.int a3), some (.int a4), some (.int a5), some (.int a6), o7, o8, o9]) (S2 := [.int ((((16 : Int32) + ((12 : Int32) * a2)) + a3) + a6), .ref 116]) (pc2 := 37) op204_36 rfl rfl ?_
      obtain ⟨k3, h⟩ := rq_chk h
      refine rx_ia (pc2 := 38) op204_37 (rn_shlt sp_116) sp_116 k3 rfl rfl ?_
      obtain ⟨x4, ex4, h⟩ := rq_bv h
      refine rx_s (v := x4) (L2 := [some (.ref 115), some (.int a1), some (.int a2), some (.int a3), some (.int a4), some (.int a5), some (.int a6), some (.int x4), o8, o9]) (pc2 := 40) op204_38 ex4 rfl rfl ?_
      refine rx_ic (v := 0) (pc2 := 41) op204_40 (by decide) rfl ?_
      refine rx_s (L2 := [some (.ref 115), some (.int a1), some (.int a2), some (.int a3), some (.int a4), some (.int a5), some (.int a6), some (.int x4), some (.int 0), o9]) (pc2 := 43) op204_41 rfl rfl rfl ?_
      refine rx_ic (v := 0) (pc2 := 44) op204_43 (by decide) rfl ?_
      refine rx_s (L2 := [some (.ref 115), some (.int a1), some (.int a2), some (.int a3), some (.int a4), some (.int a5), some (.int a6), some (.int x4), some (.int 0), some (.int 0)]) (pc2 := 46) op204_44 rfl rfl rfl ?_
      obtain ⟨wf29, f29, h⟩ := rq_bind h
      refine mo_isAlike_l46_ok xs (fun x14 m13 eq => ?_) _ _ _ _  f29
      subst eq
      try dsimp only at h
      intro o15
      refine rx_p (L2 := [some (.ref 115), some (.int a1), some (.int a2), some (.int a3), some (.int a4), some (.int a5), some (.int a6), some (.int x4), some (.int x14), o15]) (S2 := [.int a5]) (pc2 := 90) op204_88 rfl rfl ?_
      obtain ⟨x26, gc28, h⟩ := rq_bind h
      try dsimp only at h
      have c28 : ∀ (o22 o23 o24 o25 : Option Value), rn_R xs d 204 139 [some (.ref 115), some (.int a1), some (.int a2), some (.int a3), some (.int a4), o22, some (.int a6), o23, o24, o25] [.int x26] (rn_SH, m13) r τ := by
        intro o22 o23 o24 o25
        refine rx_s (L2 := [some (.ref 115), some (.int a1), some (.int a2), some (.int a3), some (.int a4), some (.int x26), some (.int a6), o23, o24, o25]) (pc2 := 141) op204_139 rfl rfl rfl ?_
        obtain ⟨x27, ex27, h⟩ := rq_bv h
        refine rx_inc (w := 1) (v := x27) (L2 := [some (.ref 115), some (.int a1), some (.int a2), some (.int a3), some (.int a4), some (.int x26), some (.int x27), o23, o24, o25]) (pc2 := 144) op204_141 rfl (by decide) ex27 rfl rfl ?_
        refine ry_go (tgt := 14) op204_144 (by decide) (by decide) ?_
        exact ih _ _ _ _ _ _ h
      refine ry_if_eq (tgt := 138) (pc2 := 93) op204_90 (by decide) (by decide) rfl (fun b16 => ?_) (fun b16 => ?_)
      · have gc28 := (if_pos b16).symm.trans gc28
        refine rx_ic (v := 0) (pc2 := 139) op204_138 (by decide) rfl ?_
        cases gc28
        exact c28 _ _ _ _
      · have gc28 := (if_neg b16).symm.trans gc28
        refine rx_p (L2 := [some (.ref 115), some (.int a1), some (.int a2), some (.int a3), some (.int a4), some (.int a5), some (.int a6), some (.int x4), some (.int x14), o15]) (S2 := [.int x4]) (pc2 := 95) op204_93 rfl rfl ?_
        refine ry_if_lt (tgt := 134) (pc2 := 98) op204_95 (by decide) (by decide) rfl (fun b17 => ?_) (fun b17 => ?_)
        · have gc28 := (if_pos b17).symm.trans gc28
          refine rx_ic (v := 1) (pc2 := 135) op204_134 (by decide) rfl ?_
          refine ry_go (tgt := 139) op204_135 (by decide) (by decide) ?_
          cases gc28
          exact c28 _ _ _ _
        · have gc28 := (if_neg b17).symm.trans gc28
          refine rx_p (L2 := [some (.ref 115), some (.int a1), some (.int a2), some (.int a3), some (.int a4), some (.int a5), some (.int a6), some (.int x4), some (.int x14), o15]) (S2 := [.ref 115]) (pc2 := 99) op204_98 rfl rfl ?_
          refine rx_gf (v := .ref 116) (pc2 := 102) op204_99 sp_115 rfl rfl rfl ?_
          refine rx_bp (v := 7) (pc2 := 104) op204_102 (by decide) rfl ?_
          refine rx_ia (j := 7) (pc2 := 105) op204_104 (rn_shlt sp_116) sp_116 (by decide) (by decide) rfl ?_
          refine rx_ic (v := 1) (pc2 := 106) op204_105 (by decide) rfl ?_
          refine ry_ic_ne (tgt := 117) (pc2 := 109) op204_106 (by decide) (by decide) rfl (fun b18 => ?_) (fun b18 => ?_)
          · have gc28 := (if_pos b18).symm.trans gc28
            refine rx_p (L2 := [some (.ref 115), some (.int a1), some (.int a2), some (.int a3), some (.int a4), some (.int a5), some (.int a6), some (.int x4), some (.int x14), o15]) (S2 := [.int x14]) (pc2 := 111) op204_109 rfl rfl ?_
            refine ry_if_eq (tgt := 138) (pc2 := 114) op204_111 (by decide) (by decide) rfl (fun b19 => ?_) (fun b19 => ?_)
            · have gc28 := (if_pos b19).symm.trans gc28
              refine rx_ic (v := 0) (pc2 := 139) op204_138 (by decide) rfl ?_
              cases gc28
              exact c28 _ _ _ _
            · have gc28 := (if_neg b19).symm.trans gc28
              refine ry_go (tgt := 134) op204_114 (by decide) (by decide) ?_
              refine rx_ic (v := 1) (pc2 := 135) op204_134 (by decide) rfl ?_
              refine ry_go (tgt := 139) op204_135 (by decide) (by decide) ?_
              cases gc28
              exact c28 _ _ _ _
          · have gc28 := (if_neg b18).symm.trans gc28
            refine rx_p (L2 := [some (.ref 115), some (.int a1), some (.int a2), some (.int a3), some (.int a4), some (.int a5), some (.int a6), some (.int x4), some (.int x14), o15]) (S2 := [.ref 115]) (pc2 := 118) op204_117 rfl rfl ?_
            refine rx_gf (v := .ref 141) (pc2 := 121) op204_118 sp_115 rfl rfl rfl ?_
            refine rx_p (L2 := [some (.ref 115), some (.int a1), some (.int a2), some (.int a3), some (.int a4), some (.int a5), some (.int a6), some (.int x4), some (.int x14), o15]) (S2 := [.int a4, .ref 141]) (pc2 := 123) op204_121 rfl rfl ?_
            refine rx_p (L2 := [some (.ref 115), some (.int a1), some (.int a2), some (.int a3), some (.int a4), some (.int a5), some (.int a6), some (.int x4), some (.int x14), o15]) (S2 := [.int a1, .int a4, .ref 141]) (pc2 := 124) op204_123 rfl rfl ?_
            refine rx_p (L2 := [some (.ref 115), some (.int a1), some (.int a2), some (.int a3), some (.int a4), some (.int a5), some (.int a6), some (.int x4), some (.int x14), o15]) (S2 := [.int (a4 * a1), .ref 141]) (pc2 := 125) op204_124 rfl rfl ?_
            refine rx_p (L2 := [some (.ref 115), some (.int a1), some (.int a2), some (.int a3), some (.int a4), some (.int a5), some (.int a6), some (.int x4), some (.int x14), o15]) (S2 := [.int a6, .int (a4 * a1), .ref 141]) (pc2 := 127) op204_125 rfl rfl ?_
            refine rx_p (L2 := [some (.ref 115), some (.int a1), some (.int a2), some (.int a3), some (.int a4), some (.int a5), some (.int a6), some (.int x4), some (.int x14), o15]) (S2 := [.int ((a4 * a1) + a6), .ref 141]) (pc2 := 128) op204_127 rfl rfl ?_
            obtain ⟨k20, gc28⟩ := rq_chk gc28
            refine rx_ia (pc2 := 129) op204_128 (rn_shlt sp_141) sp_141 k20 rfl rfl ?_
            refine rx_p (L2 := [some (.ref 115), some (.int a1), some (.int a2), some (.int a3), some (.int a4), some (.int a5), some (.int a6), some (.int x4), some (.int x14), o15]) (S2 := [.int x4, .int (m13.1 141 ((a4 * a1) + a6).toNatClampNeg)]) (pc2 := 131) op204_129 rfl rfl ?_
            refine ry_ic_ne (tgt := 138) (pc2 := 134) op204_131 (by decide) (by decide) rfl (fun b21 => ?_) (fun b21 => ?_)
            · have gc28 := (if_pos b21).symm.trans gc28
              refine rx_ic (v := 1) (pc2 := 135) op204_134 (by decide) rfl ?_
              refine ry_go (tgt := 139) op204_135 (by decide) (by decide) ?_
              cases gc28
              exact c28 _ _ _ _
            · have gc28 := (if_neg b21).symm.trans gc28
              refine rx_ic (v := 0) (pc2 := 139) op204_138 (by decide) rfl ?_
              cases gc28
              exact c28 _ _ _ _
    · have h := (if_neg b2).symm.trans h
      cases h
      exact hr _ _ rfl _ _ _ _ _ _ _ _ _
set_option maxHeartbeats 4000000 in
set_option maxRecDepth 20000 in
theorem mo_isAlike_ok (xs : List Int32) {d : Nat} (hd : 0 ≤ d) {n : Nat} {a1 : Int32} {a2 : Int32} {a3 : Int32} {m mO : rn_Mem} {rO : Int32} (h : mo_isAlike n a1 a2 a3 m = some (rO, mO)) : rn_R xs d 204 0 (rn_ent 10 [.ref 115, .int a1, .int a2, .int a3]) [] (rn_SH, m) (some (.int rO)) (rn_SH, mO) := by
  unfold mo_isAlike at h
  show rn_R xs d 204 0 [some (.ref 115), some (.int a1), some (.int a2), some (.int a3), none, none, none, none, none, none] [] (rn_SH, m) (some (.int rO)) (rn_SH, mO)
  refine rx_p (L2 := [some (.ref 115), some (.int a1), some (.int a2), some (.int a3), none, none, none, none, none, none]) (S2 := [.ref 115]) (pc2 := 1) op204_0 rfl rfl ?_
  refine rx_gf (v := .ref 116) (pc2 := 4) op204_1 sp_115 rfl rfl rfl ?_
  refine rx_ic (v := 1) (pc2 := 5) op204_4 (by decide) rfl ?_
  refine rx_ia (j := 1) (pc2 := 6) op204_5 (rn_shlt sp_116) sp_116 (by decide) (by decide) rfl ?_
  obtain ⟨x1, ex1, h⟩ := rq_bv h
  refine rx_s (v := x1) (L2 := [some (.ref 115), some (.int a1), some (.int a2), some (.int a3), some (.int x1), none, none, none, none, none]) (pc2 := 8) op204_6 ex1 rfl rfl ?_
  refine rx_ic (v := 1) (pc2 := 9) op204_8 (by decide) rfl ?_
  refine rx_s (L2 := [some (.ref 115), some (.int a1), some (.int a2), some (.int a3), some (.int x1), some (.int 1), none, none, none, none]) (pc2 := 11) op204_9 rfl rfl rfl ?_
  refine rx_ic (v := 0) (pc2 := 12) op204_11 (by decide) rfl ?_
  refine rx_s (L2 := [some (.ref 115), some (.int a1), some (.int a2), some (.int a3), some (.int x1), some (.int 1), some (.int 0), none, none, none]) (pc2 := 14) op204_12 rfl rfl rfl ?_
  obtain ⟨wf42, f42, h⟩ := rq_bind h
  refine mo_isAlike_l14_ok xs (fun x36 m30 eq => ?_) _ _ _ _ _ _ _  f42
  subst eq
  try dsimp only at h
  intro o31 o32 o33 o34 o35 o37 o38 o39 o40
  refine rx_p (L2 := [o31, o32, o33, o34, o35, some (.int x36), o37, o38, o39, o40]) (S2 := [.int x36]) (pc2 := 149) op204_147 rfl rfl ?_
  obtain ⟨k41, h⟩ := rq_chk h
  obtain ⟨rfl, rfl⟩ := rq_ret h
  exact ry_rz (x := x36) op204_149 ms_204 rfl k41
/-! mo_leaves -/
theorem op203_0 : rn_op 203 0 = some (.aload_n 0, 1, 0, 0, 0) := by decide +kernel
theorem op203_1 : rn_op 203 1 = some (.getfield 7, 3, 11, 0, 3) := by decide +kernel
theorem op203_4 : rn_op 203 4 = some (.bipush 11, 2, 0, 0, 0) := by decide +kernel
theorem op203_6 : rn_op 203 6 = some (.iaload, 1, 0, 0, 0) := by decide +kernel
theorem op203_7 : rn_op 203 7 = some (.ifCond .eq 13, 3, 0, 0, 0) := by decide +kernel
theorem op203_10 : rn_op 203 10 = some (.aload_n 0, 1, 0, 0, 0) := by decide +kernel
theorem op203_11 : rn_op 203 11 = some (.getfield 7, 3, 11, 0, 3) := by decide +kernel
theorem op203_14 : rn_op 203 14 = some (.bipush 9, 2, 0, 0, 0) := by decide +kernel
theorem op203_16 : rn_op 203 16 = some (.iaload, 1, 0, 0, 0) := by decide +kernel
theorem op203_17 : rn_op 203 17 = some (.ifCond .ne 6, 3, 0, 0, 0) := by decide +kernel
theorem op203_20 : rn_op 203 20 = some (.bipush (-2), 2, 0, 0, 0) := by decide +kernel
theorem op203_22 : rn_op 203 22 = some (.ireturn, 1, 0, 0, 0) := by decide +kernel
theorem op203_23 : rn_op 203 23 = some (.aload_n 0, 1, 0, 0, 0) := by decide +kernel
theorem op203_24 : rn_op 203 24 = some (.invokevirtual 308, 3, 159, 1, 11) := by decide +kernel
theorem op203_27 : rn_op 203 27 = some (.iconst 0, 1, 0, 0, 0) := by decide +kernel
theorem op203_28 : rn_op 203 28 = some (.istore_n 1, 1, 0, 0, 0) := by decide +kernel
theorem op203_29 : rn_op 203 29 = some (.iload_n 1, 1, 0, 0, 0) := by decide +kernel
theorem op203_30 : rn_op 203 30 = some (.aload_n 0, 1, 0, 0, 0) := by decide +kernel
theorem op203_31 : rn_op 203 31 = some (.getfield 7, 3, 11, 0, 3) := by decide +kernel
theorem op203_34 : rn_op 203 34 = some (.iconst 1, 1, 0, 0, 0) := by decide +kernel
theorem op203_35 : rn_op 203 35 = some (.iaload, 1, 0, 0, 0) := by decide +kernel
theorem op203_36 : rn_op 203 36 = some (.if_icmp .ge 106, 3, 0, 0, 0) := by decide +kernel
theorem op203_39 : rn_op 203 39 = some (.iconst 0, 1, 0, 0, 0) := by decide +kernel
theorem op203_40 : rn_op 203 40 = some (.istore_n 2, 1, 0, 0, 0) := by decide +kernel
theorem op203_41 : rn_op 203 41 = some (.iconst 1, 1, 0, 0, 0) := by decide +kernel
theorem op203_42 : rn_op 203 42 = some (.istore_n 3, 1, 0, 0, 0) := by decide +kernel
theorem op203_43 : rn_op 203 43 = some (.iconst 0, 1, 0, 0, 0) := by decide +kernel
theorem op203_44 : rn_op 203 44 = some (.istore 4, 2, 0, 0, 0) := by decide +kernel
theorem op203_46 : rn_op 203 46 = some (.iload 4, 2, 0, 0, 0) := by decide +kernel
theorem op203_48 : rn_op 203 48 = some (.aload_n 0, 1, 0, 0, 0) := by decide +kernel
theorem op203_49 : rn_op 203 49 = some (.getfield 7, 3, 11, 0, 3) := by decide +kernel
theorem op203_52 : rn_op 203 52 = some (.iconst 2, 1, 0, 0, 0) := by decide +kernel
theorem op203_53 : rn_op 203 53 = some (.iaload, 1, 0, 0, 0) := by decide +kernel
theorem op203_54 : rn_op 203 54 = some (.if_icmp .ge 63, 3, 0, 0, 0) := by decide +kernel
theorem op203_57 : rn_op 203 57 = some (.aload_n 0, 1, 0, 0, 0) := by decide +kernel
theorem op203_58 : rn_op 203 58 = some (.getfield 82, 3, 11, 37, 3) := by decide +kernel
theorem op203_61 : rn_op 203 61 = some (.iload 4, 2, 0, 0, 0) := by decide +kernel
theorem op203_63 : rn_op 203 63 = some (.iaload, 1, 0, 0, 0) := by decide +kernel
theorem op203_64 : rn_op 203 64 = some (.iload_n 1, 1, 0, 0, 0) := by decide +kernel
theorem op203_65 : rn_op 203 65 = some (.if_icmp .ne 46, 3, 0, 0, 0) := by decide +kernel
theorem op203_68 : rn_op 203 68 = some (.iload_n 3, 1, 0, 0, 0) := by decide +kernel
theorem op203_69 : rn_op 203 69 = some (.ifCond .eq 31, 3, 0, 0, 0) := by decide +kernel
theorem op203_72 : rn_op 203 72 = some (.iload_n 2, 1, 0, 0, 0) := by decide +kernel
theorem op203_73 : rn_op 203 73 = some (.aload_n 0, 1, 0, 0, 0) := by decide +kernel
theorem op203_74 : rn_op 203 74 = some (.getfield 7, 3, 11, 0, 3) := by decide +kernel
theorem op203_77 : rn_op 203 77 = some (.bipush 12, 2, 0, 0, 0) := by decide +kernel
theorem op203_79 : rn_op 203 79 = some (.iload_n 1, 1, 0, 0, 0) := by decide +kernel
theorem op203_80 : rn_op 203 80 = some (.iadd, 1, 0, 0, 0) := by decide +kernel
theorem op203_81 : rn_op 203 81 = some (.iaload, 1, 0, 0, 0) := by decide +kernel
theorem op203_82 : rn_op 203 82 = some (.if_icmp .ge 18, 3, 0, 0, 0) := by decide +kernel
theorem op203_85 : rn_op 203 85 = some (.aload_n 0, 1, 0, 0, 0) := by decide +kernel
theorem op203_86 : rn_op 203 86 = some (.iload 4, 2, 0, 0, 0) := by decide +kernel
theorem op203_88 : rn_op 203 88 = some (.iload_n 1, 1, 0, 0, 0) := by decide +kernel
theorem op203_89 : rn_op 203 89 = some (.iload_n 2, 1, 0, 0, 0) := by decide +kernel
theorem op203_90 : rn_op 203 90 = some (.invokevirtual 311, 3, 204, 4, 11) := by decide +kernel
theorem op203_93 : rn_op 203 93 = some (.ifCond .eq 7, 3, 0, 0, 0) := by decide +kernel
theorem op203_96 : rn_op 203 96 = some (.iconst 1, 1, 0, 0, 0) := by decide +kernel
theorem op203_97 : rn_op 203 97 = some (.goto 4, 3, 0, 0, 0) := by decide +kernel
theorem op203_100 : rn_op 203 100 = some (.iconst 0, 1, 0, 0, 0) := by decide +kernel
theorem op203_101 : rn_op 203 101 = some (.istore_n 3, 1, 0, 0, 0) := by decide +kernel
theorem op203_102 : rn_op 203 102 = some (.iload_n 2, 1, 0, 0, 0) := by decide +kernel
theorem op203_103 : rn_op 203 103 = some (.aload_n 0, 1, 0, 0, 0) := by decide +kernel
theorem op203_104 : rn_op 203 104 = some (.getfield 7, 3, 11, 0, 3) := by decide +kernel
theorem op203_107 : rn_op 203 107 = some (.iconst 1, 1, 0, 0, 0) := by decide +kernel
theorem op203_108 : rn_op 203 108 = some (.iaload, 1, 0, 0, 0) := by decide +kernel
theorem op203_109 : rn_op 203 109 = some (.iadd, 1, 0, 0, 0) := by decide +kernel
theorem op203_110 : rn_op 203 110 = some (.istore_n 2, 1, 0, 0, 0) := by decide +kernel
theorem op203_111 : rn_op 203 111 = some (.iinc 4 1, 3, 0, 0, 0) := by decide +kernel
theorem op203_114 : rn_op 203 114 = some (.goto (-68), 3, 0, 0, 0) := by decide +kernel
theorem op203_117 : rn_op 203 117 = some (.iload_n 3, 1, 0, 0, 0) := by decide +kernel
theorem op203_118 : rn_op 203 118 = some (.ifCond .eq 16, 3, 0, 0, 0) := by decide +kernel
theorem op203_121 : rn_op 203 121 = some (.iload_n 2, 1, 0, 0, 0) := by decide +kernel
theorem op203_122 : rn_op 203 122 = some (.aload_n 0, 1, 0, 0, 0) := by decide +kernel
theorem op203_123 : rn_op 203 123 = some (.getfield 7, 3, 11, 0, 3) := by decide +kernel
theorem op203_126 : rn_op 203 126 = some (.bipush 12, 2, 0, 0, 0) := by decide +kernel
theorem op203_128 : rn_op 203 128 = some (.iload_n 1, 1, 0, 0, 0) := by decide +kernel
theorem op203_129 : rn_op 203 129 = some (.iadd, 1, 0, 0, 0) := by decide +kernel
theorem op203_130 : rn_op 203 130 = some (.iaload, 1, 0, 0, 0) := by decide +kernel
theorem op203_131 : rn_op 203 131 = some (.if_icmp .eq 5, 3, 0, 0, 0) := by decide +kernel
theorem op203_134 : rn_op 203 134 = some (.iload_n 1, 1, 0, 0, 0) := by decide +kernel
theorem op203_135 : rn_op 203 135 = some (.ireturn, 1, 0, 0, 0) := by decide +kernel
theorem op203_136 : rn_op 203 136 = some (.iinc 1 1, 3, 0, 0, 0) := by decide +kernel
theorem op203_139 : rn_op 203 139 = some (.goto (-110), 3, 0, 0, 0) := by decide +kernel
theorem op203_142 : rn_op 203 142 = some (.aload_n 0, 1, 0, 0, 0) := by decide +kernel
theorem op203_143 : rn_op 203 143 = some (.getfield 7, 3, 11, 0, 3) := by decide +kernel
theorem op203_146 : rn_op 203 146 = some (.bipush 8, 2, 0, 0, 0) := by decide +kernel
theorem op203_148 : rn_op 203 148 = some (.iaload, 1, 0, 0, 0) := by decide +kernel
theorem op203_149 : rn_op 203 149 = some (.ifCond .lt 24, 3, 0, 0, 0) := by decide +kernel
theorem op203_152 : rn_op 203 152 = some (.aload_n 0, 1, 0, 0, 0) := by decide +kernel
theorem op203_153 : rn_op 203 153 = some (.getfield 7, 3, 11, 0, 3) := by decide +kernel
theorem op203_156 : rn_op 203 156 = some (.bipush 8, 2, 0, 0, 0) := by decide +kernel
theorem op203_158 : rn_op 203 158 = some (.iaload, 1, 0, 0, 0) := by decide +kernel
theorem op203_159 : rn_op 203 159 = some (.aload_n 0, 1, 0, 0, 0) := by decide +kernel
theorem op203_160 : rn_op 203 160 = some (.getfield 7, 3, 11, 0, 3) := by decide +kernel
theorem op203_163 : rn_op 203 163 = some (.bipush 88, 2, 0, 0, 0) := by decide +kernel
theorem op203_165 : rn_op 203 165 = some (.iaload, 1, 0, 0, 0) := by decide +kernel
theorem op203_166 : rn_op 203 166 = some (.if_icmp .eq 7, 3, 0, 0, 0) := by decide +kernel
theorem op203_169 : rn_op 203 169 = some (.iconst 4, 1, 0, 0, 0) := by decide +kernel
theorem op203_170 : rn_op 203 170 = some (.goto 5, 3, 0, 0, 0) := by decide +kernel
theorem op203_173 : rn_op 203 173 = some (.bipush (-4), 2, 0, 0, 0) := by decide +kernel
theorem op203_175 : rn_op 203 175 = some (.ireturn, 1, 0, 0, 0) := by decide +kernel
def mo_leaves_l46 (a1 : Int32) : Nat → Int32 → Int32 → Int32 → rn_Mem → Option (Int32 × Int32 × rn_Mem)
  | 0, _, _, _, _ => none
  | n + 1, a2, a3, a4, m =>
    if a4 < (m.1 116 2) then
      if rn_in a4 4 = true then
        (show Option (Int32 × Int32 × rn_Mem) from
          if (m.1 140 a4.toNatClampNeg) = a1 then
            (show Option (Int32 × rn_Mem) from
              if a3 = 0 then
                some (0, m)
              else
                if rn_in ((12 : Int32) + a1) 101 = true then
                  if a2 < (m.1 116 ((12 : Int32) + a1).toNatClampNeg) then
                    (mo_isAlike n a4 a1 a2 m).bind fun (r13, m12) =>
                    if r13 = 0 then
                      some (0, m12)
                    else
                      some (1, m12)
                  else
                    some (0, m)
                else none).bind fun (x17, m18) =>
            (some (a2 + (m18.1 116 1))).bind fun (x19 : Int32) =>
            some (x19, x17, m18)
          else
            some (a2, a3, m)).bind fun (x21, x22, m23) =>
        (some (a4 + 1)).bind fun (x24 : Int32) =>
        mo_leaves_l46 a1 n x21 x22 x24 m23
      else none
    else
      some (a2, a3, m)
def mo_leaves_l29  : Nat → Int32 → rn_Mem → Option ((Int32 × rn_Mem) ⊕ (rn_Mem))
  | 0, _, _ => none
  | n + 1, a1, m =>
    if a1 < (m.1 116 1) then
      (mo_leaves_l46 a1 n 0 1 0 m).bind fun (x27, x28, m26) =>
      if x28 = 0 then
        some (.inl (a1, m26))
      else
        if rn_in ((12 : Int32) + a1) 101 = true then
          if x27 = (m26.1 116 ((12 : Int32) + a1).toNatClampNeg) then
            (some (a1 + 1)).bind fun (x33 : Int32) =>
            mo_leaves_l29 n x33 m26
          else
            some (.inl (a1, m26))
        else none
    else
      some (.inr m)
def mo_leaves (n : Nat)  (m : rn_Mem) : Option (Int32 × rn_Mem) :=
  if (m.1 116 11) = 0 then
    some ((-2), m)
  else
    if (m.1 116 9) = 0 then
      some ((-2), m)
    else
      (mo_takeRow n m).bind fun m3 =>
      (mo_leaves_l29 n 0 m3).bind fun q => match q with
      | .inl o => some o
      | .inr m35 =>
      if (m35.1 116 8) < 0 then
        some ((-4), m35)
      else
        if (m35.1 116 8) = (m35.1 116 88) then
          some ((-4), m35)
        else
          some (4, m35)
set_option maxHeartbeats 4000000 in
set_option maxRecDepth 20000 in
theorem mo_leaves_l46_ok (xs : List Int32) {d : Nat} (hd : 4 ≤ d + 1) {a1 : Int32} {r : Option Value} {τ : rn_H} {out : Int32 × Int32 × rn_Mem} (hr : ∀ (z2 : Int32) (z3 : Int32) (mO : rn_Mem), out = (z2, z3, mO) → ∀ (o4 : Option Value), rn_R xs (d + 1) 203 117 [some (.ref 115), some (.int a1), some (.int z2), some (.int z3), o4] [] (rn_SH, mO) r τ) : ∀ (n : Nat) (a2 : Int32) (a3 : Int32) (a4 : Int32) (m : rn_Mem), mo_leaves_l46 a1 n a2 a3 a4 m = some out → rn_R xs (d + 1) 203 46 [some (.ref 115), some (.int a1), some (.int a2), some (.int a3), some (.int a4)] [] (rn_SH, m) r τ := by
  intro n
  induction n with
  | zero =>
    intro _ _ _ _ h
    cases h
  | succ n ih =>
    intro a2 a3 a4 m h
    unfold mo_leaves_l46 at h
    try dsimp only at h
    refine rx_p (L2 := [some (.ref 115), some (.int a1), some (.int a2), some (.int a3), some (.int a4)]) (S2 := [.int a4]) (pc2 := 48) op203_46 rfl rfl ?_
    refine rx_p (L2 := [some (.ref 115), some (.int a1), some (.int a2), some (.int a3), some (.int a4)]) (S2 := [.ref 115, .int a4]) (pc2 := 49) op203_48 rfl rfl ?_
    refine rx_gf (v := .ref 116) (pc2 := 52) op203_49 sp_115 rfl rfl rfl ?_
    refine rx_ic (v := 2) (pc2 := 53) op203_52 (by decide) rfl ?_
    refine rx_ia (j := 2) (pc2 := 54) op203_53 (rn_shlt sp_116) sp_116 (by decide) (by decide) rfl ?_
    refine ry_ic_ge (tgt := 117) (pc2 := 57) op203_54 (by decide) (by decide) rfl (fun b6 => ?_) (fun b6 => ?_)
    · have h := (if_pos b6).symm.trans h
      refine rx_p (L2 := [some (.ref 115), some (.int a1), some (.int a2), some (.int a3), some (.int a4)]) (S2 := [.ref 115]) (pc2 := 58) op203_57 rfl rfl ?_
      refine rx_gf (v := .ref 140) (pc2 := 61) op203_58 sp_115 rfl rfl rfl ?_
      refine rx_p (L2 := [some (.ref 115), some (.int a1), some (.int a2), some (.int a3), some (.int a4)]) (S2 := [.int a4, .ref 140]) (pc2 := 63) op203_61 rfl rfl ?_
      obtain ⟨k7, h⟩ := rq_chk h
      refine rx_ia (pc2 := 64) op203_63 (rn_shlt sp_140) sp_140 k7 rfl rfl ?_
      refine rx_p (L2 := [some (.ref 115), some (.int a1), some (.int a2), some (.int a3), some (.int a4)]) (S2 := [.int a1, .int (m.1 140 a4.toNatClampNeg)]) (pc2 := 65) op203_64 rfl rfl ?_
      obtain ⟨⟨x21, x22, m23⟩, gc25, h⟩ := rq_bind h
      try dsimp only at h
      have c25 : ∀ (_ : Unit), rn_R xs (d + 1) 203 111 [some (.ref 115), some (.int a1), some (.int x21), some (.int x22), some (.int a4)] [] (rn_SH, m23) r τ := by
        intro _
        obtain ⟨x24, ex24, h⟩ := rq_bv h
        refine rx_inc (w := 1) (v := x24) (L2 := [some (.ref 115), some (.int a1), some (.int x21), some (.int x22), some (.int x24)]) (pc2 := 114) op203_111 rfl (by decide) ex24 rfl rfl ?_
        refine ry_go (tgt := 46) op203_114 (by decide) (by decide) ?_
        exact ih _ _ _ _ h
      refine ry_ic_ne (tgt := 111) (pc2 := 68) op203_65 (by decide) (by decide) rfl (fun b8 => ?_) (fun b8 => ?_)
      · have gc25 := (if_pos b8).symm.trans gc25
        refine rx_p (L2 := [some (.ref 115), some (.int a1), some (.int a2), some (.int a3), some (.int a4)]) (S2 := [.int a3]) (pc2 := 69) op203_68 rfl rfl ?_
        obtain ⟨⟨x17, m18⟩, gc20, gc25⟩ := rq_bind gc25
        try dsimp only at gc25
        have c20 : ∀ (o16 : Option Value), rn_R xs (d + 1) 203 101 [some (.ref 115), some (.int a1), some (.int a2), o16, some (.int a4)] [.int x17] (rn_SH, m18) r τ := by
          intro o16
          refine rx_s (L2 := [some (.ref 115), some (.int a1), some (.int a2), some (.int x17), some (.int a4)]) (pc2 := 102) op203_101 rfl rfl rfl ?_
          refine rx_p (L2 := [some (.ref 115), some (.int a1), some (.int a2), some (.int x17), some (.int a4)]) (S2 := [.int a2]) (pc2 := 103) op203_102 rfl rfl ?_
          refine rx_p (L2 := [some (.ref 115), some (.int a1), some (.int a2), some (.int x17), some (.int a4)]) (S2 := [.ref 115, .int a2]) (pc2 := 104) op203_103 rfl rfl ?_
          refine rx_gf (v := .ref 116) (pc2 := 107) op203_104 sp_115 rfl rfl rfl ?_
          refine rx_ic (v := 1) (pc2 := 108) op203_107 (by decide) rfl ?_
          refine rx_ia (j := 1) (pc2 := 109) op203_108 (rn_shlt sp_116) sp_116 (by decide) (by decide) rfl ?_
          refine rx_p (L2 := [some (.ref 115), some (.int a1), some (.int a2), some (.int x17), some (.int a4)]) (S2 := [.int (a2 + (m18.1 116 1))]) (pc2 := 110) op203_109 rfl rfl ?_
          obtain ⟨x19, ex19, gc25⟩ := rq_bv gc25
          refine rx_s (v := x19) (L2 := [some (.ref 115), some (.int a1), some (.int x19), some (.int x17), some (.int a4)]) (pc2 := 111) op203_110 ex19 rfl rfl ?_
          cases gc25
          exact c25 ()
        refine ry_if_eq (tgt := 100) (pc2 := 72) op203_69 (by decide) (by decide) rfl (fun b9 => ?_) (fun b9 => ?_)
        · have gc20 := (if_pos b9).symm.trans gc20
          refine rx_ic (v := 0) (pc2 := 101) op203_100 (by decide) rfl ?_
          cases gc20
          exact c20 _
        · have gc20 := (if_neg b9).symm.trans gc20
          refine rx_p (L2 := [some (.ref 115), some (.int a1), some (.int a2), some (.int a3), some (.int a4)]) (S2 := [.int a2]) (pc2 := 73) op203_72 rfl rfl ?_
          refine rx_p (L2 := [some (.ref 115), some (.int a1), some (.int a2), some (.int a3), some (.int a4)]) (S2 := [.ref 115, .int a2]) (pc2 := 74) op203_73 rfl rfl ?_
          refine rx_gf (v := .ref 116) (pc2 := 77) op203_74 sp_115 rfl rfl rfl ?_
          refine rx_bp (v := 12) (pc2 := 79) op203_77 (by decide) rfl ?_
          refine rx_p (L2 := [some (.ref 115), some (.int a1), some (.int a2), some (.int a3), some (.int a4)]) (S2 := [.int a1, .int 12, .ref 116, .int a2]) (pc2 := 80) op203_79 rfl rfl ?_
          refine rx_p (L2 := [some (.ref 115), some (.int a1), some (.int a2), some (.int a3), some (.int a4)]) (S2 := [.int ((12 : Int32) + a1), .ref 116, .int a2]) (pc2 := 81) op203_80 rfl rfl ?_
          obtain ⟨k10, gc20⟩ := rq_chk gc20
          refine rx_ia (pc2 := 82) op203_81 (rn_shlt sp_116) sp_116 k10 rfl rfl ?_
          refine ry_ic_ge (tgt := 100) (pc2 := 85) op203_82 (by decide) (by decide) rfl (fun b11 => ?_) (fun b11 => ?_)
          · have gc20 := (if_pos b11).symm.trans gc20
            refine rx_p (L2 := [some (.ref 115), some (.int a1), some (.int a2), some (.int a3), some (.int a4)]) (S2 := [.ref 115]) (pc2 := 86) op203_85 rfl rfl ?_
            refine rx_p (L2 := [some (.ref 115), some (.int a1), some (.int a2), some (.int a3), some (.int a4)]) (S2 := [.int a4, .ref 115]) (pc2 := 88) op203_86 rfl rfl ?_
            refine rx_p (L2 := [some (.ref 115), some (.int a1), some (.int a2), some (.int a3), some (.int a4)]) (S2 := [.int a1, .int a4, .ref 115]) (pc2 := 89) op203_88 rfl rfl ?_
            refine rx_p (L2 := [some (.ref 115), some (.int a1), some (.int a2), some (.int a3), some (.int a4)]) (S2 := [.int a2, .int a1, .int a4, .ref 115]) (pc2 := 90) op203_89 rfl rfl ?_
            obtain ⟨⟨r13, m12⟩, f14, gc20⟩ := rq_bind gc20
            try dsimp only at gc20
            refine ry_iv (p := 115) (vs := [.int a4, .int a1, .int a2]) (T := []) (pc2 := 93) op203_90 ms_204 (by decide) rfl rfl (Nat.le_of_ble_eq_true rfl) (Nat.le_of_ble_eq_true rfl) sp_115 (mo_isAlike_ok xs (by omega)  f14) rfl ?_
            show rn_R _ _ _ _ _ [.int r13] _ _ _
            refine ry_if_eq (tgt := 100) (pc2 := 96) op203_93 (by decide) (by decide) rfl (fun b15 => ?_) (fun b15 => ?_)
            · have gc20 := (if_pos b15).symm.trans gc20
              refine rx_ic (v := 0) (pc2 := 101) op203_100 (by decide) rfl ?_
              cases gc20
              exact c20 _
            · have gc20 := (if_neg b15).symm.trans gc20
              refine rx_ic (v := 1) (pc2 := 97) op203_96 (by decide) rfl ?_
              refine ry_go (tgt := 101) op203_97 (by decide) (by decide) ?_
              cases gc20
              exact c20 _
          · have gc20 := (if_neg b11).symm.trans gc20
            refine rx_ic (v := 0) (pc2 := 101) op203_100 (by decide) rfl ?_
            cases gc20
            exact c20 _
      · have gc25 := (if_neg b8).symm.trans gc25
        cases gc25
        exact c25 ()
    · have h := (if_neg b6).symm.trans h
      cases h
      exact hr _ _ _ rfl _
set_option maxHeartbeats 4000000 in
set_option maxRecDepth 20000 in
theorem mo_leaves_l29_ok (xs : List Int32) {d : Nat} (hd : 4 ≤ d + 1) {r : Option Value} {τ : rn_H} {out : (Int32 × rn_Mem) ⊕ (rn_Mem)} (hl : ∀ (rO : Int32) (mO : rn_Mem), out = .inl (rO, mO) → r = (some (.int rO)) ∧ τ = (rn_SH, mO)) (hr : ∀ (mO : rn_Mem), out = .inr mO → ∀ (o1 o2 o3 o4 : Option Value), rn_R xs (d + 1) 203 142 [some (.ref 115), o1, o2, o3, o4] [] (rn_SH, mO) r τ) : ∀ (n : Nat) (a1 : Int32) (o2 o3 o4 : Option Value) (m : rn_Mem), mo_leaves_l29 n a1 m = some out → rn_R xs (d + 1) 203 29 [some (.ref 115), some (.int a1), o2, o3, o4] [] (rn_SH, m) r τ := by
  intro n
  induction n with
  | zero =>
    intro _ _ _ _ _ h
    cases h
  | succ n ih =>
    intro a1 o2 o3 o4 m h
    unfold mo_leaves_l29 at h
    try dsimp only at h
    refine rx_p (L2 := [some (.ref 115), some (.int a1), o2, o3, o4]) (S2 := [.int a1]) (pc2 := 30) op203_29 rfl rfl ?_
    refine rx_p (L2 := [some (.ref 115), some (.int a1), o2, o3, o4]) (S2 := [.ref 115, .int a1]) (pc2 := 31) op203_30 rfl rfl ?_
    refine rx_gf (v := .ref 116) (pc2 := 34) op203_31 sp_115 rfl rfl rfl ?_
    refine rx_ic (v := 1) (pc2 := 35) op203_34 (by decide) rfl ?_
    refine rx_ia (j := 1) (pc2 := 36) op203_35 (rn_shlt sp_116) sp_116 (by decide) (by decide) rfl ?_
    refine ry_ic_ge (tgt := 142) (pc2 := 39) op203_36 (by decide) (by decide) rfl (fun b5 => ?_) (fun b5 => ?_)
    · have h := (if_pos b5).symm.trans h
      refine rx_ic (v := 0) (pc2 := 40) op203_39 (by decide) rfl ?_
      refine rx_s (L2 := [some (.ref 115), some (.int a1), some (.int 0), o3, o4]) (pc2 := 41) op203_40 rfl rfl rfl ?_
      refine rx_ic (v := 1) (pc2 := 42) op203_41 (by decide) rfl ?_
      refine rx_s (L2 := [some (.ref 115), some (.int a1), some (.int 0), some (.int 1), o4]) (pc2 := 43) op203_42 rfl rfl rfl ?_
      refine rx_ic (v := 0) (pc2 := 44) op203_43 (by decide) rfl ?_
      refine rx_s (L2 := [some (.ref 115), some (.int a1), some (.int 0), some (.int 1), some (.int 0)]) (pc2 := 46) op203_44 rfl rfl rfl ?_
      obtain ⟨wf34, f34, h⟩ := rq_bind h
      refine mo_leaves_l46_ok xs hd (fun x27 x28 m26 eq => ?_) _ _ _ _ _  f34
      subst eq
      try dsimp only at h
      intro o29
      refine rx_p (L2 := [some (.ref 115), some (.int a1), some (.int x27), some (.int x28), o29]) (S2 := [.int x28]) (pc2 := 118) op203_117 rfl rfl ?_
      refine ry_if_eq (tgt := 134) (pc2 := 121) op203_118 (by decide) (by decide) rfl (fun b30 => ?_) (fun b30 => ?_)
      · have h := (if_pos b30).symm.trans h
        refine rx_p (L2 := [some (.ref 115), some (.int a1), some (.int x27), some (.int x28), o29]) (S2 := [.int a1]) (pc2 := 135) op203_134 rfl rfl ?_
        cases h
        obtain ⟨rfl, rfl⟩ := hl _ _ rfl
        exact ry_ri op203_135 ms_203 rfl
      · have h := (if_neg b30).symm.trans h
        refine rx_p (L2 := [some (.ref 115), some (.int a1), some (.int x27), some (.int x28), o29]) (S2 := [.int x27]) (pc2 := 122) op203_121 rfl rfl ?_
        refine rx_p (L2 := [some (.ref 115), some (.int a1), some (.int x27), some (.int x28), o29]) (S2 := [.ref 115, .int x27]) (pc2 := 123) op203_122 rfl rfl ?_
        refine rx_gf (v := .ref 116) (pc2 := 126) op203_123 sp_115 rfl rfl rfl ?_
        refine rx_bp (v := 12) (pc2 := 128) op203_126 (by decide) rfl ?_
        refine rx_p (L2 := [some (.ref 115), some (.int a1), some (.int x27), some (.int x28), o29]) (S2 := [.int a1, .int 12, .ref 116, .int x27]) (pc2 := 129) op203_128 rfl rfl ?_
        refine rx_p (L2 := [some (.ref 115), some (.int a1), some (.int x27), some (.int x28), o29]) (S2 := [.int ((12 : Int32) + a1), .ref 116, .int x27]) (pc2 := 130) op203_129 rfl rfl ?_
        obtain ⟨k31, h⟩ := rq_chk h
        refine rx_ia (pc2 := 131) op203_130 (rn_shlt sp_116) sp_116 k31 rfl rfl ?_
        refine ry_ic_eq (tgt := 136) (pc2 := 134) op203_131 (by decide) (by decide) rfl (fun b32 => ?_) (fun b32 => ?_)
        · have h := (if_pos b32).symm.trans h
          obtain ⟨x33, ex33, h⟩ := rq_bv h
          refine rx_inc (w := 1) (v := x33) (L2 := [some (.ref 115), some (.int x33), some (.int x27), some (.int x28), o29]) (pc2 := 139) op203_136 rfl (by decide) ex33 rfl rfl ?_
          refine ry_go (tgt := 29) op203_139 (by decide) (by decide) ?_
          exact ih _ _ _ _ _ h
        · have h := (if_neg b32).symm.trans h
          refine rx_p (L2 := [some (.ref 115), some (.int a1), some (.int x27), some (.int x28), o29]) (S2 := [.int a1]) (pc2 := 135) op203_134 rfl rfl ?_
          cases h
          obtain ⟨rfl, rfl⟩ := hl _ _ rfl
          exact ry_ri op203_135 ms_203 rfl
    · have h := (if_neg b5).symm.trans h
      cases h
      exact hr _ rfl _ _ _ _
set_option maxHeartbeats 4000000 in
set_option maxRecDepth 20000 in
theorem mo_leaves_ok (xs : List Int32) {d : Nat} (hd : 4 ≤ d) {n : Nat} {m mO : rn_Mem} {rO : Int32} (h : mo_leaves n  m = some (rO, mO)) : rn_R xs d 203 0 (rn_ent 5 [.ref 115]) [] (rn_SH, m) (some (.int rO)) (rn_SH, mO) := by
  obtain ⟨d, rfl⟩ : ∃ e, d = e + 1 := ⟨d - 1, by omega⟩
  unfold mo_leaves at h
  show rn_R xs (d + 1) 203 0 [some (.ref 115), none, none, none, none] [] (rn_SH, m) (some (.int rO)) (rn_SH, mO)
  refine rx_p (L2 := [some (.ref 115), none, none, none, none]) (S2 := [.ref 115]) (pc2 := 1) op203_0 rfl rfl ?_
  refine rx_gf (v := .ref 116) (pc2 := 4) op203_1 sp_115 rfl rfl rfl ?_
  refine rx_bp (v := 11) (pc2 := 6) op203_4 (by decide) rfl ?_
  refine rx_ia (j := 11) (pc2 := 7) op203_6 (rn_shlt sp_116) sp_116 (by decide) (by decide) rfl ?_
  refine ry_if_eq (tgt := 20) (pc2 := 10) op203_7 (by decide) (by decide) rfl (fun b1 => ?_) (fun b1 => ?_)
  · have h := (if_pos b1).symm.trans h
    refine rx_bp (v := (-2)) (pc2 := 22) op203_20 (by decide) rfl ?_
    obtain ⟨rfl, rfl⟩ := rq_ret h
    exact ry_ri op203_22 ms_203 rfl
  · have h := (if_neg b1).symm.trans h
    refine rx_p (L2 := [some (.ref 115), none, none, none, none]) (S2 := [.ref 115]) (pc2 := 11) op203_10 rfl rfl ?_
    refine rx_gf (v := .ref 116) (pc2 := 14) op203_11 sp_115 rfl rfl rfl ?_
    refine rx_bp (v := 9) (pc2 := 16) op203_14 (by decide) rfl ?_
    refine rx_ia (j := 9) (pc2 := 17) op203_16 (rn_shlt sp_116) sp_116 (by decide) (by decide) rfl ?_
    refine ry_if_ne (tgt := 23) (pc2 := 20) op203_17 (by decide) (by decide) rfl (fun b2 => ?_) (fun b2 => ?_)
    · have h := (if_pos b2).symm.trans h
      refine rx_bp (v := (-2)) (pc2 := 22) op203_20 (by decide) rfl ?_
      obtain ⟨rfl, rfl⟩ := rq_ret h
      exact ry_ri op203_22 ms_203 rfl
    · have h := (if_neg b2).symm.trans h
      refine rx_p (L2 := [some (.ref 115), none, none, none, none]) (S2 := [.ref 115]) (pc2 := 24) op203_23 rfl rfl ?_
      obtain ⟨m3, f4, h⟩ := rq_bind h
      try dsimp only at h
      refine ry_iv (p := 115) (vs := []) (T := []) (pc2 := 27) op203_24 ms_159 (by decide) rfl rfl (Nat.le_of_ble_eq_true rfl) (Nat.le_of_ble_eq_true rfl) sp_115 (mo_takeRow_ok xs (by omega)  f4) rfl ?_
      show rn_R _ _ _ _ _ [] _ _ _
      refine rx_ic (v := 0) (pc2 := 28) op203_27 (by decide) rfl ?_
      refine rx_s (L2 := [some (.ref 115), some (.int 0), none, none, none]) (pc2 := 29) op203_28 rfl rfl rfl ?_
      obtain ⟨wf42, f42, h⟩ := rq_bind h
      refine mo_leaves_l29_ok xs hd (fun v0 m0 eq => ?_) (fun m35 eq => ?_) _ _ _ _ _ _  f42
      · subst eq
        try dsimp only at h
        cases h
        exact ⟨rfl, rfl⟩
      · subst eq
        try dsimp only at h
        intro o36 o37 o38 o39
        refine rx_p (L2 := [some (.ref 115), o36, o37, o38, o39]) (S2 := [.ref 115]) (pc2 := 143) op203_142 rfl rfl ?_
        refine rx_gf (v := .ref 116) (pc2 := 146) op203_143 sp_115 rfl rfl rfl ?_
        refine rx_bp (v := 8) (pc2 := 148) op203_146 (by decide) rfl ?_
        refine rx_ia (j := 8) (pc2 := 149) op203_148 (rn_shlt sp_116) sp_116 (by decide) (by decide) rfl ?_
        refine ry_if_lt (tgt := 173) (pc2 := 152) op203_149 (by decide) (by decide) rfl (fun b40 => ?_) (fun b40 => ?_)
        · have h := (if_pos b40).symm.trans h
          refine rx_bp (v := (-4)) (pc2 := 175) op203_173 (by decide) rfl ?_
          obtain ⟨rfl, rfl⟩ := rq_ret h
          exact ry_ri op203_175 ms_203 rfl
        · have h := (if_neg b40).symm.trans h
          refine rx_p (L2 := [some (.ref 115), o36, o37, o38, o39]) (S2 := [.ref 115]) (pc2 := 153) op203_152 rfl rfl ?_
          refine rx_gf (v := .ref 116) (pc2 := 156) op203_153 sp_115 rfl rfl rfl ?_
          refine rx_bp (v := 8) (pc2 := 158) op203_156 (by decide) rfl ?_
          refine rx_ia (j := 8) (pc2 := 159) op203_158 (rn_shlt sp_116) sp_116 (by decide) (by decide) rfl ?_
          refine rx_p (L2 := [some (.ref 115), o36, o37, o38, o39]) (S2 := [.ref 115, .int (m35.1 116 8)]) (pc2 := 160) op203_159 rfl rfl ?_
          refine rx_gf (v := .ref 116) (pc2 := 163) op203_160 sp_115 rfl rfl rfl ?_
          refine rx_bp (v := 88) (pc2 := 165) op203_163 (by decide) rfl ?_
          refine rx_ia (j := 88) (pc2 := 166) op203_165 (rn_shlt sp_116) sp_116 (by decide) (by decide) rfl ?_
          refine ry_ic_eq (tgt := 173) (pc2 := 169) op203_166 (by decide) (by decide) rfl (fun b41 => ?_) (fun b41 => ?_)
          · have h := (if_pos b41).symm.trans h
            refine rx_bp (v := (-4)) (pc2 := 175) op203_173 (by decide) rfl ?_
            obtain ⟨rfl, rfl⟩ := rq_ret h
            exact ry_ri op203_175 ms_203 rfl
          · have h := (if_neg b41).symm.trans h
            refine rx_ic (v := 4) (pc2 := 170) op203_169 (by decide) rfl ?_
            refine ry_go (tgt := 175) op203_170 (by decide) (by decide) ?_
            obtain ⟨rfl, rfl⟩ := rq_ret h
            exact ry_ri op203_175 ms_203 rfl
/-! mo_who -/
theorem op205_0 : rn_op 205 0 = some (.iload_n 1, 1, 0, 0, 0) := by decide +kernel
theorem op205_1 : rn_op 205 1 = some (.i2l, 1, 0, 0, 0) := by decide +kernel
theorem op205_2 : rn_op 205 2 = some (.lconst 0, 1, 0, 0, 0) := by decide +kernel
theorem op205_3 : rn_op 205 3 = some (.ldc2_w 180, 3, 11, 0, 0) := by decide +kernel
theorem op205_6 : rn_op 205 6 = some (.invokestatic 121, 3, 147, 3, 0) := by decide +kernel
theorem op205_9 : rn_op 205 9 = some (.ifCond .eq 13, 3, 0, 0, 0) := by decide +kernel
theorem op205_12 : rn_op 205 12 = some (.iload_n 2, 1, 0, 0, 0) := by decide +kernel
theorem op205_13 : rn_op 205 13 = some (.i2l, 1, 0, 0, 0) := by decide +kernel
theorem op205_14 : rn_op 205 14 = some (.lconst 0, 1, 0, 0, 0) := by decide +kernel
theorem op205_15 : rn_op 205 15 = some (.lconst 1, 1, 0, 0, 0) := by decide +kernel
theorem op205_16 : rn_op 205 16 = some (.invokestatic 121, 3, 147, 3, 0) := by decide +kernel
theorem op205_19 : rn_op 205 19 = some (.ifCond .ne 5, 3, 0, 0, 0) := by decide +kernel
theorem op205_22 : rn_op 205 22 = some (.iconst (-1), 1, 0, 0, 0) := by decide +kernel
theorem op205_23 : rn_op 205 23 = some (.ireturn, 1, 0, 0, 0) := by decide +kernel
theorem op205_24 : rn_op 205 24 = some (.aload_n 0, 1, 0, 0, 0) := by decide +kernel
theorem op205_25 : rn_op 205 25 = some (.getfield 7, 3, 11, 0, 3) := by decide +kernel
theorem op205_28 : rn_op 205 28 = some (.bipush 11, 2, 0, 0, 0) := by decide +kernel
theorem op205_30 : rn_op 205 30 = some (.iaload, 1, 0, 0, 0) := by decide +kernel
theorem op205_31 : rn_op 205 31 = some (.ifCond .ne 6, 3, 0, 0, 0) := by decide +kernel
theorem op205_34 : rn_op 205 34 = some (.bipush (-2), 2, 0, 0, 0) := by decide +kernel
theorem op205_36 : rn_op 205 36 = some (.ireturn, 1, 0, 0, 0) := by decide +kernel
theorem op205_37 : rn_op 205 37 = some (.iload_n 1, 1, 0, 0, 0) := by decide +kernel
theorem op205_38 : rn_op 205 38 = some (.aload_n 0, 1, 0, 0, 0) := by decide +kernel
theorem op205_39 : rn_op 205 39 = some (.invokevirtual 167, 3, 155, 1, 11) := by decide +kernel
theorem op205_42 : rn_op 205 42 = some (.if_icmp .lt 5, 3, 0, 0, 0) := by decide +kernel
theorem op205_45 : rn_op 205 45 = some (.iconst (-1), 1, 0, 0, 0) := by decide +kernel
theorem op205_46 : rn_op 205 46 = some (.ireturn, 1, 0, 0, 0) := by decide +kernel
theorem op205_47 : rn_op 205 47 = some (.aload_n 0, 1, 0, 0, 0) := by decide +kernel
theorem op205_48 : rn_op 205 48 = some (.invokevirtual 308, 3, 159, 1, 11) := by decide +kernel
theorem op205_51 : rn_op 205 51 = some (.iload_n 2, 1, 0, 0, 0) := by decide +kernel
theorem op205_52 : rn_op 205 52 = some (.ifCond .ne 11, 3, 0, 0, 0) := by decide +kernel
theorem op205_55 : rn_op 205 55 = some (.aload_n 0, 1, 0, 0, 0) := by decide +kernel
theorem op205_56 : rn_op 205 56 = some (.iload_n 1, 1, 0, 0, 0) := by decide +kernel
theorem op205_57 : rn_op 205 57 = some (.invokevirtual 285, 3, 200, 2, 11) := by decide +kernel
theorem op205_60 : rn_op 205 60 = some (.goto 16, 3, 0, 0, 0) := by decide +kernel
theorem op205_63 : rn_op 205 63 = some (.aload_n 0, 1, 0, 0, 0) := by decide +kernel
theorem op205_64 : rn_op 205 64 = some (.getfield 82, 3, 11, 37, 3) := by decide +kernel
theorem op205_67 : rn_op 205 67 = some (.iload_n 1, 1, 0, 0, 0) := by decide +kernel
theorem op205_68 : rn_op 205 68 = some (.aload_n 0, 1, 0, 0, 0) := by decide +kernel
theorem op205_69 : rn_op 205 69 = some (.getfield 7, 3, 11, 0, 3) := by decide +kernel
theorem op205_72 : rn_op 205 72 = some (.iconst 1, 1, 0, 0, 0) := by decide +kernel
theorem op205_73 : rn_op 205 73 = some (.iaload, 1, 0, 0, 0) := by decide +kernel
theorem op205_74 : rn_op 205 74 = some (.idiv, 1, 0, 0, 0) := by decide +kernel
theorem op205_75 : rn_op 205 75 = some (.iaload, 1, 0, 0, 0) := by decide +kernel
theorem op205_76 : rn_op 205 76 = some (.ireturn, 1, 0, 0, 0) := by decide +kernel
def mo_who (n : Nat) (a1 : Int32) (a2 : Int32) (m : rn_Mem) : Option (Int32 × rn_Mem) :=
  (mo_in n (a1.toInt64) 0 11 m).bind fun (r2, m1) =>
  if r2 = 0 then
    some ((-1), m1)
  else
    (mo_in n (a2.toInt64) 0 1 m1).bind fun (r6, m5) =>
    if r6 = 0 then
      some ((-1), m5)
    else
      if (m5.1 116 11) = 0 then
        some ((-2), m5)
      else
        (mo_size n m5).bind fun (r11, m10) =>
        if a1 < r11 then
          (mo_takeRow n m10).bind fun m14 =>
          if a2 = 0 then
            (mo_playerAt n a1 m14).bind fun (r18, m17) =>
            some (r18, m17)
          else
            if ¬ (m14.1 116 1) = 0 then
              if rn_in (a1 / (m14.1 116 1)) 4 = true then
                some (m14.1 140 (a1 / (m14.1 116 1)).toNatClampNeg, m14)
              else none
            else none
        else
          some ((-1), m10)
set_option maxHeartbeats 4000000 in
set_option maxRecDepth 20000 in
theorem mo_who_ok (xs : List Int32) {d : Nat} (hd : 4 ≤ d) {n : Nat} {a1 : Int32} {a2 : Int32} {m mO : rn_Mem} {rO : Int32} (h : mo_who n a1 a2 m = some (rO, mO)) : rn_R xs d 205 0 (rn_ent 3 [.ref 115, .int a1, .int a2]) [] (rn_SH, m) (some (.int rO)) (rn_SH, mO) := by
  obtain ⟨d, rfl⟩ : ∃ e, d = e + 1 := ⟨d - 1, by omega⟩
  unfold mo_who at h
  show rn_R xs (d + 1) 205 0 [some (.ref 115), some (.int a1), some (.int a2)] [] (rn_SH, m) (some (.int rO)) (rn_SH, mO)
  refine rx_p (L2 := [some (.ref 115), some (.int a1), some (.int a2)]) (S2 := [.int a1]) (pc2 := 1) op205_0 rfl rfl ?_
  refine rx_p (L2 := [some (.ref 115), some (.int a1), some (.int a2)]) (S2 := [.long (a1.toInt64)]) (pc2 := 2) op205_1 rfl rfl ?_
  refine rx_lc (v := 0) (pc2 := 3) op205_2 (by decide) rfl ?_
  refine rx_ld2 (v := 11) (pc2 := 6) op205_3 (by decide) rfl ?_
  obtain ⟨⟨r2, m1⟩, f3, h⟩ := rq_bind h
  try dsimp only at h
  refine ry_is (vs := [.long (a1.toInt64), .long 0, .long 11]) (T := []) (pc2 := 9) op205_6 (by decide) ms_147 (by decide) rfl rfl (Nat.le_of_ble_eq_true rfl) (Nat.le_of_ble_eq_true rfl) (mo_in_ok xs (by omega)  f3) rfl ?_
  show rn_R _ _ _ _ _ [.int r2] _ _ _
  refine ry_if_eq (tgt := 22) (pc2 := 12) op205_9 (by decide) (by decide) rfl (fun b4 => ?_) (fun b4 => ?_)
  · have h := (if_pos b4).symm.trans h
    refine rx_ic (v := (-1)) (pc2 := 23) op205_22 (by decide) rfl ?_
    obtain ⟨rfl, rfl⟩ := rq_ret h
    exact ry_ri op205_23 ms_205 rfl
  · have h := (if_neg b4).symm.trans h
    refine rx_p (L2 := [some (.ref 115), some (.int a1), some (.int a2)]) (S2 := [.int a2]) (pc2 := 13) op205_12 rfl rfl ?_
    refine rx_p (L2 := [some (.ref 115), some (.int a1), some (.int a2)]) (S2 := [.long (a2.toInt64)]) (pc2 := 14) op205_13 rfl rfl ?_
    refine rx_lc (v := 0) (pc2 := 15) op205_14 (by decide) rfl ?_
    refine rx_lc (v := 1) (pc2 := 16) op205_15 (by decide) rfl ?_
    obtain ⟨⟨r6, m5⟩, f7, h⟩ := rq_bind h
    try dsimp only at h
    refine ry_is (vs := [.long (a2.toInt64), .long 0, .long 1]) (T := []) (pc2 := 19) op205_16 (by decide) ms_147 (by decide) rfl rfl (Nat.le_of_ble_eq_true rfl) (Nat.le_of_ble_eq_true rfl) (mo_in_ok xs (by omega)  f7) rfl ?_
    show rn_R _ _ _ _ _ [.int r6] _ _ _
    refine ry_if_ne (tgt := 24) (pc2 := 22) op205_19 (by decide) (by decide) rfl (fun b8 => ?_) (fun b8 => ?_)
    · have h := (if_pos b8).symm.trans h
      refine rx_ic (v := (-1)) (pc2 := 23) op205_22 (by decide) rfl ?_
      obtain ⟨rfl, rfl⟩ := rq_ret h
      exact ry_ri op205_23 ms_205 rfl
    · have h := (if_neg b8).symm.trans h
      refine rx_p (L2 := [some (.ref 115), some (.int a1), some (.int a2)]) (S2 := [.ref 115]) (pc2 := 25) op205_24 rfl rfl ?_
      refine rx_gf (v := .ref 116) (pc2 := 28) op205_25 sp_115 rfl rfl rfl ?_
      refine rx_bp (v := 11) (pc2 := 30) op205_28 (by decide) rfl ?_
      refine rx_ia (j := 11) (pc2 := 31) op205_30 (rn_shlt sp_116) sp_116 (by decide) (by decide) rfl ?_
      refine ry_if_ne (tgt := 37) (pc2 := 34) op205_31 (by decide) (by decide) rfl (fun b9 => ?_) (fun b9 => ?_)
      · have h := (if_pos b9).symm.trans h
        refine rx_bp (v := (-2)) (pc2 := 36) op205_34 (by decide) rfl ?_
        obtain ⟨rfl, rfl⟩ := rq_ret h
        exact ry_ri op205_36 ms_205 rfl
      · have h := (if_neg b9).symm.trans h
        refine rx_p (L2 := [some (.ref 115), some (.int a1), some (.int a2)]) (S2 := [.int a1]) (pc2 := 38) op205_37 rfl rfl ?_
        refine rx_p (L2 := [some (.ref 115), some (.int a1), some (.int a2)]) (S2 := [.ref 115, .int a1]) (pc2 := 39) op205_38 rfl rfl ?_
        obtain ⟨⟨r11, m10⟩, f12, h⟩ := rq_bind h
        try dsimp only at h
        refine ry_iv (p := 115) (vs := []) (T := [.int a1]) (pc2 := 42) op205_39 ms_155 (by decide) rfl rfl (Nat.le_of_ble_eq_true rfl) (Nat.le_of_ble_eq_true rfl) sp_115 (mo_size_ok xs (by omega)  f12) rfl ?_
        show rn_R _ _ _ _ _ [.int r11, .int a1] _ _ _
        refine ry_ic_lt (tgt := 47) (pc2 := 45) op205_42 (by decide) (by decide) rfl (fun b13 => ?_) (fun b13 => ?_)
        · have h := (if_pos b13).symm.trans h
          refine rx_p (L2 := [some (.ref 115), some (.int a1), some (.int a2)]) (S2 := [.ref 115]) (pc2 := 48) op205_47 rfl rfl ?_
          obtain ⟨m14, f15, h⟩ := rq_bind h
          try dsimp only at h
          refine ry_iv (p := 115) (vs := []) (T := []) (pc2 := 51) op205_48 ms_159 (by decide) rfl rfl (Nat.le_of_ble_eq_true rfl) (Nat.le_of_ble_eq_true rfl) sp_115 (mo_takeRow_ok xs (by omega)  f15) rfl ?_
          show rn_R _ _ _ _ _ [] _ _ _
          refine rx_p (L2 := [some (.ref 115), some (.int a1), some (.int a2)]) (S2 := [.int a2]) (pc2 := 52) op205_51 rfl rfl ?_
          refine ry_if_ne (tgt := 63) (pc2 := 55) op205_52 (by decide) (by decide) rfl (fun b16 => ?_) (fun b16 => ?_)
          · have h := (if_pos b16).symm.trans h
            refine rx_p (L2 := [some (.ref 115), some (.int a1), some (.int a2)]) (S2 := [.ref 115]) (pc2 := 56) op205_55 rfl rfl ?_
            refine rx_p (L2 := [some (.ref 115), some (.int a1), some (.int a2)]) (S2 := [.int a1, .ref 115]) (pc2 := 57) op205_56 rfl rfl ?_
            obtain ⟨⟨r18, m17⟩, f19, h⟩ := rq_bind h
            try dsimp only at h
            refine ry_iv (p := 115) (vs := [.int a1]) (T := []) (pc2 := 60) op205_57 ms_200 (by decide) rfl rfl (Nat.le_of_ble_eq_true rfl) (Nat.le_of_ble_eq_true rfl) sp_115 (mo_playerAt_ok xs (by omega)  f19) rfl ?_
            show rn_R _ _ _ _ _ [.int r18] _ _ _
            refine ry_go (tgt := 76) op205_60 (by decide) (by decide) ?_
            obtain ⟨rfl, rfl⟩ := rq_ret h
            exact ry_ri op205_76 ms_205 rfl
          · have h := (if_neg b16).symm.trans h
            refine rx_p (L2 := [some (.ref 115), some (.int a1), some (.int a2)]) (S2 := [.ref 115]) (pc2 := 64) op205_63 rfl rfl ?_
            refine rx_gf (v := .ref 140) (pc2 := 67) op205_64 sp_115 rfl rfl rfl ?_
            refine rx_p (L2 := [some (.ref 115), some (.int a1), some (.int a2)]) (S2 := [.int a1, .ref 140]) (pc2 := 68) op205_67 rfl rfl ?_
            refine rx_p (L2 := [some (.ref 115), some (.int a1), some (.int a2)]) (S2 := [.ref 115, .int a1, .ref 140]) (pc2 := 69) op205_68 rfl rfl ?_
            refine rx_gf (v := .ref 116) (pc2 := 72) op205_69 sp_115 rfl rfl rfl ?_
            refine rx_ic (v := 1) (pc2 := 73) op205_72 (by decide) rfl ?_
            refine rx_ia (j := 1) (pc2 := 74) op205_73 (rn_shlt sp_116) sp_116 (by decide) (by decide) rfl ?_
            obtain ⟨k20, h⟩ := rq_chk h
            refine rx_div (v := a1 / (m14.1 116 1)) (pc2 := 75) op205_74 k20 rfl rfl ?_
            obtain ⟨k21, h⟩ := rq_chk h
            refine rx_ia (pc2 := 76) op205_75 (rn_shlt sp_140) sp_140 k21 rfl rfl ?_
            obtain ⟨rfl, rfl⟩ := rq_ret h
            exact ry_ri op205_76 ms_205 rfl
        · have h := (if_neg b13).symm.trans h
          refine rx_ic (v := (-1)) (pc2 := 46) op205_45 (by decide) rfl ?_
          obtain ⟨rfl, rfl⟩ := rq_ret h
          exact ry_ri op205_46 ms_205 rfl
/-! mo_comeTo -/
theorem op208_0 : rn_op 208 0 = some (.aload_n 0, 1, 0, 0, 0) := by decide +kernel
theorem op208_1 : rn_op 208 1 = some (.aload_n 0, 1, 0, 0, 0) := by decide +kernel
theorem op208_2 : rn_op 208 2 = some (.getfield 88, 3, 11, 39, 3) := by decide +kernel
theorem op208_5 : rn_op 208 5 = some (.aload_n 0, 1, 0, 0, 0) := by decide +kernel
theorem op208_6 : rn_op 208 6 = some (.getfield 7, 3, 11, 0, 3) := by decide +kernel
theorem op208_9 : rn_op 208 9 = some (.bipush 88, 2, 0, 0, 0) := by decide +kernel
theorem op208_11 : rn_op 208 11 = some (.iaload, 1, 0, 0, 0) := by decide +kernel
theorem op208_12 : rn_op 208 12 = some (.iload_n 1, 1, 0, 0, 0) := by decide +kernel
theorem op208_13 : rn_op 208 13 = some (.invokevirtual 288, 3, 160, 4, 11) := by decide +kernel
theorem op208_16 : rn_op 208 16 = some (.aload_n 0, 1, 0, 0, 0) := by decide +kernel
theorem op208_17 : rn_op 208 17 = some (.getfield 7, 3, 11, 0, 3) := by decide +kernel
theorem op208_20 : rn_op 208 20 = some (.iconst 1, 1, 0, 0, 0) := by decide +kernel
theorem op208_21 : rn_op 208 21 = some (.iaload, 1, 0, 0, 0) := by decide +kernel
theorem op208_22 : rn_op 208 22 = some (.istore_n 2, 1, 0, 0, 0) := by decide +kernel
theorem op208_23 : rn_op 208 23 = some (.iload_n 1, 1, 0, 0, 0) := by decide +kernel
theorem op208_24 : rn_op 208 24 = some (.iload_n 2, 1, 0, 0, 0) := by decide +kernel
theorem op208_25 : rn_op 208 25 = some (.irem, 1, 0, 0, 0) := by decide +kernel
theorem op208_26 : rn_op 208 26 = some (.ifCond .ne 8, 3, 0, 0, 0) := by decide +kernel
theorem op208_29 : rn_op 208 29 = some (.bipush (-4), 2, 0, 0, 0) := by decide +kernel
theorem op208_31 : rn_op 208 31 = some (.goto 13, 3, 0, 0, 0) := by decide +kernel
theorem op208_34 : rn_op 208 34 = some (.aload_n 0, 1, 0, 0, 0) := by decide +kernel
theorem op208_35 : rn_op 208 35 = some (.getfield 88, 3, 11, 39, 3) := by decide +kernel
theorem op208_38 : rn_op 208 38 = some (.iload_n 1, 1, 0, 0, 0) := by decide +kernel
theorem op208_39 : rn_op 208 39 = some (.iload_n 1, 1, 0, 0, 0) := by decide +kernel
theorem op208_40 : rn_op 208 40 = some (.iload_n 2, 1, 0, 0, 0) := by decide +kernel
theorem op208_41 : rn_op 208 41 = some (.irem, 1, 0, 0, 0) := by decide +kernel
theorem op208_42 : rn_op 208 42 = some (.isub, 1, 0, 0, 0) := by decide +kernel
theorem op208_43 : rn_op 208 43 = some (.iaload, 1, 0, 0, 0) := by decide +kernel
theorem op208_44 : rn_op 208 44 = some (.istore_n 3, 1, 0, 0, 0) := by decide +kernel
theorem op208_45 : rn_op 208 45 = some (.aload_n 0, 1, 0, 0, 0) := by decide +kernel
theorem op208_46 : rn_op 208 46 = some (.getfield 94, 3, 11, 41, 3) := by decide +kernel
theorem op208_49 : rn_op 208 49 = some (.iload_n 1, 1, 0, 0, 0) := by decide +kernel
theorem op208_50 : rn_op 208 50 = some (.aload_n 0, 1, 0, 0, 0) := by decide +kernel
theorem op208_51 : rn_op 208 51 = some (.aload_n 0, 1, 0, 0, 0) := by decide +kernel
theorem op208_52 : rn_op 208 52 = some (.getfield 91, 3, 11, 40, 3) := by decide +kernel
theorem op208_55 : rn_op 208 55 = some (.aload_n 0, 1, 0, 0, 0) := by decide +kernel
theorem op208_56 : rn_op 208 56 = some (.iload_n 1, 1, 0, 0, 0) := by decide +kernel
theorem op208_57 : rn_op 208 57 = some (.invokevirtual 285, 3, 200, 2, 11) := by decide +kernel
theorem op208_60 : rn_op 208 60 = some (.iaload, 1, 0, 0, 0) := by decide +kernel
theorem op208_61 : rn_op 208 61 = some (.iload_n 3, 1, 0, 0, 0) := by decide +kernel
theorem op208_62 : rn_op 208 62 = some (.invokevirtual 304, 3, 202, 3, 11) := by decide +kernel
theorem op208_65 : rn_op 208 65 = some (.iastore, 1, 0, 0, 0) := by decide +kernel
theorem op208_66 : rn_op 208 66 = some (.aload_n 0, 1, 0, 0, 0) := by decide +kernel
theorem op208_67 : rn_op 208 67 = some (.getfield 97, 3, 11, 42, 3) := by decide +kernel
theorem op208_70 : rn_op 208 70 = some (.iload_n 1, 1, 0, 0, 0) := by decide +kernel
theorem op208_71 : rn_op 208 71 = some (.bipush (-4), 2, 0, 0, 0) := by decide +kernel
theorem op208_73 : rn_op 208 73 = some (.iastore, 1, 0, 0, 0) := by decide +kernel
theorem op208_74 : rn_op 208 74 = some (.return_, 1, 0, 0, 0) := by decide +kernel
def mo_comeTo (n : Nat) (a1 : Int32) (m : rn_Mem) : Option (rn_Mem) :=
  (mo_findLeaders n 142 (m.1 116 88) a1 m).bind fun m1 =>
  (some (m1.1 116 1)).bind fun (x3 : Int32) =>
  if ¬ x3 = 0 then
    (show Option (Int32) from
      if (rn_rem a1 x3) = 0 then
        some ((-4))
      else
        if ¬ x3 = 0 then
          if rn_in (a1 - (rn_rem a1 x3)) 12 = true then
            some (m1.1 142 (a1 - (rn_rem a1 x3)).toNatClampNeg)
          else none
        else none).bind fun x10 =>
    (mo_playerAt n a1 m1).bind fun (r13, m12) =>
    if rn_in r13 4 = true then
      (mo_lawful n (m12.1 143 r13.toNatClampNeg) x10 m12).bind fun (r17, m16) =>
      if rn_in a1 13 = true then
        (some (rm_i m16 144 a1.toNatClampNeg r17)).bind fun (m19 : rn_Mem) =>
        if rn_in a1 13 = true then
          (some (rm_i m19 145 a1.toNatClampNeg (-4))).bind fun (m21 : rn_Mem) =>
          some m21
        else none
      else none
    else none
  else none
set_option maxHeartbeats 4000000 in
set_option maxRecDepth 20000 in
theorem mo_comeTo_ok (xs : List Int32) {d : Nat} (hd : 3 ≤ d) {n : Nat} {a1 : Int32} {m mO : rn_Mem} (h : mo_comeTo n a1 m = some mO) : rn_R xs d 208 0 (rn_ent 4 [.ref 115, .int a1]) [] (rn_SH, m) none (rn_SH, mO) := by
  obtain ⟨d, rfl⟩ : ∃ e, d = e + 1 := ⟨d - 1, by omega⟩
  unfold mo_comeTo at h
  show rn_R xs (d + 1) 208 0 [some (.ref 115), some (.int a1), none, none] [] (rn_SH, m) none (rn_SH, mO)
  refine rx_p (L2 := [some (.ref 115), some (.int a1), none, none]) (S2 := [.ref 115]) (pc2 := 1) op208_0 rfl rfl ?_
  refine rx_p (L2 := [some (.ref 115), some (.int a1), none, none]) (S2 := [.ref 115, .ref 115]) (pc2 := 2) op208_1 rfl rfl ?_
  refine rx_gf (v := .ref 142) (pc2 := 5) op208_2 sp_115 rfl rfl rfl ?_
  refine rx_p (L2 := [some (.ref 115), some (.int a1), none, none]) (S2 := [.ref 115, .ref 142, .ref 115]) (pc2 := 6) op208_5 rfl rfl ?_
  refine rx_gf (v := .ref 116) (pc2 := 9) op208_6 sp_115 rfl rfl rfl ?_
  refine rx_bp (v := 88) (pc2 := 11) op208_9 (by decide) rfl ?_
  refine rx_ia (j := 88) (pc2 := 12) op208_11 (rn_shlt sp_116) sp_116 (by decide) (by decide) rfl ?_
  refine rx_p (L2 := [some (.ref 115), some (.int a1), none, none]) (S2 := [.int a1, .int (m.1 116 88), .ref 142, .ref 115]) (pc2 := 13) op208_12 rfl rfl ?_
  obtain ⟨m1, f2, h⟩ := rq_bind h
  try dsimp only at h
  refine ry_iv (p := 115) (vs := [.ref 142, .int (m.1 116 88), .int a1]) (T := []) (pc2 := 16) op208_13 ms_160 (by decide) rfl rfl (Nat.le_of_ble_eq_true rfl) (Nat.le_of_ble_eq_true rfl) sp_115 (mo_findLeaders_ok xs (by omega) sr_142 f2) rfl ?_
  show rn_R _ _ _ _ _ [] _ _ _
  refine rx_p (L2 := [some (.ref 115), some (.int a1), none, none]) (S2 := [.ref 115]) (pc2 := 17) op208_16 rfl rfl ?_
  refine rx_gf (v := .ref 116) (pc2 := 20) op208_17 sp_115 rfl rfl rfl ?_
  refine rx_ic (v := 1) (pc2 := 21) op208_20 (by decide) rfl ?_
  refine rx_ia (j := 1) (pc2 := 22) op208_21 (rn_shlt sp_116) sp_116 (by decide) (by decide) rfl ?_
  obtain ⟨x3, ex3, h⟩ := rq_bv h
  refine rx_s (v := x3) (L2 := [some (.ref 115), some (.int a1), some (.int x3), none]) (pc2 := 23) op208_22 ex3 rfl rfl ?_
  refine rx_p (L2 := [some (.ref 115), some (.int a1), some (.int x3), none]) (S2 := [.int a1]) (pc2 := 24) op208_23 rfl rfl ?_
  refine rx_p (L2 := [some (.ref 115), some (.int a1), some (.int x3), none]) (S2 := [.int x3, .int a1]) (pc2 := 25) op208_24 rfl rfl ?_
  obtain ⟨k4, h⟩ := rq_chk h
  refine rx_rem (v := rn_rem a1 x3) (pc2 := 26) op208_25 k4 rfl rfl ?_
  obtain ⟨x10, gc23, h⟩ := rq_bind h
  try dsimp only at h
  have c23 : ∀ (o8 o9 : Option Value), rn_R xs (d + 1) 208 44 [some (.ref 115), some (.int a1), o8, o9] [.int x10] (rn_SH, m1) none (rn_SH, mO) := by
    intro o8 o9
    refine rx_sd (v := x10) (j := 2) (pc2 := 45) op208_44 rfl rfl (Nat.le_of_ble_eq_true rfl) rfl (fun o11 => ?_)
    show rn_R _ _ _ _ [some (.ref 115), some (.int a1), o11, some (.int x10)] _ _ _ _
    refine rx_p (L2 := [some (.ref 115), some (.int a1), o11, some (.int x10)]) (S2 := [.ref 115]) (pc2 := 46) op208_45 rfl rfl ?_
    refine rx_gf (v := .ref 144) (pc2 := 49) op208_46 sp_115 rfl rfl rfl ?_
    refine rx_p (L2 := [some (.ref 115), some (.int a1), o11, some (.int x10)]) (S2 := [.int a1, .ref 144]) (pc2 := 50) op208_49 rfl rfl ?_
    refine rx_p (L2 := [some (.ref 115), some (.int a1), o11, some (.int x10)]) (S2 := [.ref 115, .int a1, .ref 144]) (pc2 := 51) op208_50 rfl rfl ?_
    refine rx_p (L2 := [some (.ref 115), some (.int a1), o11, some (.int x10)]) (S2 := [.ref 115, .ref 115, .int a1, .ref 144]) (pc2 := 52) op208_51 rfl rfl ?_
    refine rx_gf (v := .ref 143) (pc2 := 55) op208_52 sp_115 rfl rfl rfl ?_
    refine rx_p (L2 := [some (.ref 115), some (.int a1), o11, some (.int x10)]) (S2 := [.ref 115, .ref 143, .ref 115, .int a1, .ref 144]) (pc2 := 56) op208_55 rfl rfl ?_
    refine rx_p (L2 := [some (.ref 115), some (.int a1), o11, some (.int x10)]) (S2 := [.int a1, .ref 115, .ref 143, .ref 115, .int a1, .ref 144]) (pc2 := 57) op208_56 rfl rfl ?_
    obtain ⟨⟨r13, m12⟩, f14, h⟩ := rq_bind h
    try dsimp only at h
    refine ry_iv (p := 115) (vs := [.int a1]) (T := [.ref 143, .ref 115, .int a1, .ref 144]) (pc2 := 60) op208_57 ms_200 (by decide) rfl rfl (Nat.le_of_ble_eq_true rfl) (Nat.le_of_ble_eq_true rfl) sp_115 (mo_playerAt_ok xs (by omega)  f14) rfl ?_
    show rn_R _ _ _ _ _ [.int r13, .ref 143, .ref 115, .int a1, .ref 144] _ _ _
    obtain ⟨k15, h⟩ := rq_chk h
    refine rx_ia (pc2 := 61) op208_60 (rn_shlt sp_143) sp_143 k15 rfl rfl ?_
    refine rx_p (L2 := [some (.ref 115), some (.int a1), o11, some (.int x10)]) (S2 := [.int x10, .int (m12.1 143 r13.toNatClampNeg), .ref 115, .int a1, .ref 144]) (pc2 := 62) op208_61 rfl rfl ?_
    obtain ⟨⟨r17, m16⟩, f18, h⟩ := rq_bind h
    try dsimp only at h
    refine ry_iv (p := 115) (vs := [.int (m12.1 143 r13.toNatClampNeg), .int x10]) (T := [.int a1, .ref 144]) (pc2 := 65) op208_62 ms_202 (by decide) rfl rfl (Nat.le_of_ble_eq_true rfl) (Nat.le_of_ble_eq_true rfl) sp_115 (mo_lawful_ok xs (by omega)  f18) rfl ?_
    show rn_R _ _ _ _ _ [.int r17, .int a1, .ref 144] _ _ _
    obtain ⟨k20, h⟩ := rq_chk h
    obtain ⟨m19, em19, h⟩ := rq_bv h
    refine rx_is (m2 := m19) (pc2 := 66) op208_65 sp_144 k20 rfl em19 rfl ?_
    refine rx_p (L2 := [some (.ref 115), some (.int a1), o11, some (.int x10)]) (S2 := [.ref 115]) (pc2 := 67) op208_66 rfl rfl ?_
    refine rx_gf (v := .ref 145) (pc2 := 70) op208_67 sp_115 rfl rfl rfl ?_
    refine rx_p (L2 := [some (.ref 115), some (.int a1), o11, some (.int x10)]) (S2 := [.int a1, .ref 145]) (pc2 := 71) op208_70 rfl rfl ?_
    refine rx_bp (v := (-4)) (pc2 := 73) op208_71 (by decide) rfl ?_
    obtain ⟨k22, h⟩ := rq_chk h
    obtain ⟨m21, em21, h⟩ := rq_bv h
    refine rx_is (m2 := m21) (pc2 := 74) op208_73 sp_145 k22 rfl em21 rfl ?_
    obtain rfl := Option.some.inj h
    exact ry_rv op208_74 ms_208 rfl
  refine ry_if_ne (tgt := 34) (pc2 := 29) op208_26 (by decide) (by decide) rfl (fun b5 => ?_) (fun b5 => ?_)
  · have gc23 := (if_pos b5).symm.trans gc23
    refine rx_bp (v := (-4)) (pc2 := 31) op208_29 (by decide) rfl ?_
    refine ry_go (tgt := 44) op208_31 (by decide) (by decide) ?_
    cases gc23
    exact c23 _ _
  · have gc23 := (if_neg b5).symm.trans gc23
    refine rx_p (L2 := [some (.ref 115), some (.int a1), some (.int x3), none]) (S2 := [.ref 115]) (pc2 := 35) op208_34 rfl rfl ?_
    refine rx_gf (v := .ref 142) (pc2 := 38) op208_35 sp_115 rfl rfl rfl ?_
    refine rx_p (L2 := [some (.ref 115), some (.int a1), some (.int x3), none]) (S2 := [.int a1, .ref 142]) (pc2 := 39) op208_38 rfl rfl ?_
    refine rx_p (L2 := [some (.ref 115), some (.int a1), some (.int x3), none]) (S2 := [.int a1, .int a1, .ref 142]) (pc2 := 40) op208_39 rfl rfl ?_
    refine rx_p (L2 := [some (.ref 115), some (.int a1), some (.int x3), none]) (S2 := [.int x3, .int a1, .int a1, .ref 142]) (pc2 := 41) op208_40 rfl rfl ?_
    obtain ⟨k6, gc23⟩ := rq_chk gc23
    refine rx_rem (v := rn_rem a1 x3) (pc2 := 42) op208_41 k6 rfl rfl ?_
    refine rx_p (L2 := [some (.ref 115), some (.int a1), some (.int x3), none]) (S2 := [.int (a1 - (rn_rem a1 x3)), .ref 142]) (pc2 := 43) op208_42 rfl rfl ?_
    obtain ⟨k7, gc23⟩ := rq_chk gc23
    refine rx_ia (pc2 := 44) op208_43 (rn_shlt sp_142) sp_142 k7 rfl rfl ?_
    cases gc23
    exact c23 _ _
/-! mo_takeValue -/
theorem op209_0 : rn_op 209 0 = some (.aload_n 0, 1, 0, 0, 0) := by decide +kernel
theorem op209_1 : rn_op 209 1 = some (.iload_n 1, 1, 0, 0, 0) := by decide +kernel
theorem op209_2 : rn_op 209 2 = some (.invokevirtual 285, 3, 200, 2, 11) := by decide +kernel
theorem op209_5 : rn_op 209 5 = some (.iconst 2, 1, 0, 0, 0) := by decide +kernel
theorem op209_6 : rn_op 209 6 = some (.irem, 1, 0, 0, 0) := by decide +kernel
theorem op209_7 : rn_op 209 7 = some (.ifCond .ne 7, 3, 0, 0, 0) := by decide +kernel
theorem op209_10 : rn_op 209 10 = some (.iconst 1, 1, 0, 0, 0) := by decide +kernel
theorem op209_11 : rn_op 209 11 = some (.goto 4, 3, 0, 0, 0) := by decide +kernel
theorem op209_14 : rn_op 209 14 = some (.iconst 0, 1, 0, 0, 0) := by decide +kernel
theorem op209_15 : rn_op 209 15 = some (.istore_n 3, 1, 0, 0, 0) := by decide +kernel
theorem op209_16 : rn_op 209 16 = some (.aload_n 0, 1, 0, 0, 0) := by decide +kernel
theorem op209_17 : rn_op 209 17 = some (.getfield 97, 3, 11, 42, 3) := by decide +kernel
theorem op209_20 : rn_op 209 20 = some (.iload_n 1, 1, 0, 0, 0) := by decide +kernel
theorem op209_21 : rn_op 209 21 = some (.aload_n 0, 1, 0, 0, 0) := by decide +kernel
theorem op209_22 : rn_op 209 22 = some (.getfield 97, 3, 11, 42, 3) := by decide +kernel
theorem op209_25 : rn_op 209 25 = some (.iload_n 1, 1, 0, 0, 0) := by decide +kernel
theorem op209_26 : rn_op 209 26 = some (.iaload, 1, 0, 0, 0) := by decide +kernel
theorem op209_27 : rn_op 209 27 = some (.ifCond .lt 30, 3, 0, 0, 0) := by decide +kernel
theorem op209_30 : rn_op 209 30 = some (.iload_n 3, 1, 0, 0, 0) := by decide +kernel
theorem op209_31 : rn_op 209 31 = some (.ifCond .eq 16, 3, 0, 0, 0) := by decide +kernel
theorem op209_34 : rn_op 209 34 = some (.iload_n 2, 1, 0, 0, 0) := by decide +kernel
theorem op209_35 : rn_op 209 35 = some (.aload_n 0, 1, 0, 0, 0) := by decide +kernel
theorem op209_36 : rn_op 209 36 = some (.getfield 97, 3, 11, 42, 3) := by decide +kernel
theorem op209_39 : rn_op 209 39 = some (.iload_n 1, 1, 0, 0, 0) := by decide +kernel
theorem op209_40 : rn_op 209 40 = some (.iaload, 1, 0, 0, 0) := by decide +kernel
theorem op209_41 : rn_op 209 41 = some (.if_icmp .le 20, 3, 0, 0, 0) := by decide +kernel
theorem op209_44 : rn_op 209 44 = some (.goto 13, 3, 0, 0, 0) := by decide +kernel
theorem op209_47 : rn_op 209 47 = some (.iload_n 2, 1, 0, 0, 0) := by decide +kernel
theorem op209_48 : rn_op 209 48 = some (.aload_n 0, 1, 0, 0, 0) := by decide +kernel
theorem op209_49 : rn_op 209 49 = some (.getfield 97, 3, 11, 42, 3) := by decide +kernel
theorem op209_52 : rn_op 209 52 = some (.iload_n 1, 1, 0, 0, 0) := by decide +kernel
theorem op209_53 : rn_op 209 53 = some (.iaload, 1, 0, 0, 0) := by decide +kernel
theorem op209_54 : rn_op 209 54 = some (.if_icmp .ge 7, 3, 0, 0, 0) := by decide +kernel
theorem op209_57 : rn_op 209 57 = some (.iload_n 2, 1, 0, 0, 0) := by decide +kernel
theorem op209_58 : rn_op 209 58 = some (.goto 9, 3, 0, 0, 0) := by decide +kernel
theorem op209_61 : rn_op 209 61 = some (.aload_n 0, 1, 0, 0, 0) := by decide +kernel
theorem op209_62 : rn_op 209 62 = some (.getfield 97, 3, 11, 42, 3) := by decide +kernel
theorem op209_65 : rn_op 209 65 = some (.iload_n 1, 1, 0, 0, 0) := by decide +kernel
theorem op209_66 : rn_op 209 66 = some (.iaload, 1, 0, 0, 0) := by decide +kernel
theorem op209_67 : rn_op 209 67 = some (.iastore, 1, 0, 0, 0) := by decide +kernel
theorem op209_68 : rn_op 209 68 = some (.return_, 1, 0, 0, 0) := by decide +kernel
def mo_takeValue (n : Nat) (a1 : Int32) (a2 : Int32) (m : rn_Mem) : Option (rn_Mem) :=
  (mo_playerAt n a1 m).bind fun (r2, m1) =>
  (show Option (Int32) from
    if (rn_rem r2 2) = 0 then
      some (1)
    else
      some (0)).bind fun x6 =>
  if rn_in a1 13 = true then
    (show Option (Int32) from
      if (m1.1 145 a1.toNatClampNeg) < 0 then
        some (a2)
      else
        if x6 = 0 then
          if rn_in a1 13 = true then
            if a2 < (m1.1 145 a1.toNatClampNeg) then
              some (a2)
            else
              if rn_in a1 13 = true then
                some (m1.1 145 a1.toNatClampNeg)
              else none
          else none
        else
          if rn_in a1 13 = true then
            if (m1.1 145 a1.toNatClampNeg) < a2 then
              some (a2)
            else
              if rn_in a1 13 = true then
                some (m1.1 145 a1.toNatClampNeg)
              else none
          else none).bind fun x20 =>
    if rn_in a1 13 = true then
      (some (rm_i m1 145 a1.toNatClampNeg x20)).bind fun (m21 : rn_Mem) =>
      some m21
    else none
  else none
set_option maxHeartbeats 4000000 in
set_option maxRecDepth 20000 in
theorem mo_takeValue_ok (xs : List Int32) {d : Nat} (hd : 1 ≤ d) {n : Nat} {a1 : Int32} {a2 : Int32} {m mO : rn_Mem} (h : mo_takeValue n a1 a2 m = some mO) : rn_R xs d 209 0 (rn_ent 4 [.ref 115, .int a1, .int a2]) [] (rn_SH, m) none (rn_SH, mO) := by
  obtain ⟨d, rfl⟩ : ∃ e, d = e + 1 := ⟨d - 1, by omega⟩
  unfold mo_takeValue at h
  show rn_R xs (d + 1) 209 0 [some (.ref 115), some (.int a1), some (.int a2), none] [] (rn_SH, m) none (rn_SH, mO)
  refine rx_p (L2 := [some (.ref 115), some (.int a1), some (.int a2), none]) (S2 := [.ref 115]) (pc2 := 1) op209_0 rfl rfl ?_
  refine rx_p (L2 := [some (.ref 115), some (.int a1), some (.int a2), none]) (S2 := [.int a1, .ref 115]) (pc2 := 2) op209_1 rfl rfl ?_
  obtain ⟨⟨r2, m1⟩, f3, h⟩ := rq_bind h
  try dsimp only at h
  refine ry_iv (p := 115) (vs := [.int a1]) (T := []) (pc2 := 5) op209_2 ms_200 (by decide) rfl rfl (Nat.le_of_ble_eq_true rfl) (Nat.le_of_ble_eq_true rfl) sp_115 (mo_playerAt_ok xs (by omega)  f3) rfl ?_
  show rn_R _ _ _ _ _ [.int r2] _ _ _
  refine rx_ic (v := 2) (pc2 := 6) op209_5 (by decide) rfl ?_
  refine rx_rem (v := rn_rem r2 2) (pc2 := 7) op209_6 (by decide) rfl rfl ?_
  obtain ⟨x6, gc24, h⟩ := rq_bind h
  try dsimp only at h
  have c24 : ∀ (o5 : Option Value), rn_R xs (d + 1) 209 15 [some (.ref 115), some (.int a1), some (.int a2), o5] [.int x6] (rn_SH, m1) none (rn_SH, mO) := by
    intro o5
    refine rx_s (L2 := [some (.ref 115), some (.int a1), some (.int a2), some (.int x6)]) (pc2 := 16) op209_15 rfl rfl rfl ?_
    refine rx_p (L2 := [some (.ref 115), some (.int a1), some (.int a2), some (.int x6)]) (S2 := [.ref 115]) (pc2 := 17) op209_16 rfl rfl ?_
    refine rx_gf (v := .ref 145) (pc2 := 20) op209_17 sp_115 rfl rfl rfl ?_
    refine rx_p (L2 := [some (.ref 115), some (.int a1), some (.int a2), some (.int x6)]) (S2 := [.int a1, .ref 145]) (pc2 := 21) op209_20 rfl rfl ?_
    refine rx_p (L2 := [some (.ref 115), some (.int a1), some (.int a2), some (.int x6)]) (S2 := [.ref 115, .int a1, .ref 145]) (pc2 := 22) op209_21 rfl rfl ?_
    refine rx_gf (v := .ref 145) (pc2 := 25) op209_22 sp_115 rfl rfl rfl ?_
    refine rx_p (L2 := [some (.ref 115), some (.int a1), some (.int a2), some (.int x6)]) (S2 := [.int a1, .ref 145, .int a1, .ref 145]) (pc2 := 26) op209_25 rfl rfl ?_
    obtain ⟨k7, h⟩ := rq_chk h
    refine rx_ia (pc2 := 27) op209_26 (rn_shlt sp_145) sp_145 k7 rfl rfl ?_
    obtain ⟨x20, gc23, h⟩ := rq_bind h
    try dsimp only at h
    have c23 : ∀ (o16 o17 o18 o19 : Option Value), rn_R xs (d + 1) 209 67 [o16, o17, o18, o19] [.int x20, .int a1, .ref 145] (rn_SH, m1) none (rn_SH, mO) := by
      intro o16 o17 o18 o19
      obtain ⟨k22, h⟩ := rq_chk h
      obtain ⟨m21, em21, h⟩ := rq_bv h
      refine rx_is (m2 := m21) (pc2 := 68) op209_67 sp_145 k22 rfl em21 rfl ?_
      obtain rfl := Option.some.inj h
      exact ry_rv op209_68 ms_209 rfl
    refine ry_if_lt (tgt := 57) (pc2 := 30) op209_27 (by decide) (by decide) rfl (fun b8 => ?_) (fun b8 => ?_)
    · have gc23 := (if_pos b8).symm.trans gc23
      refine rx_p (L2 := [some (.ref 115), some (.int a1), some (.int a2), some (.int x6)]) (S2 := [.int a2, .int a1, .ref 145]) (pc2 := 58) op209_57 rfl rfl ?_
      refine ry_go (tgt := 67) op209_58 (by decide) (by decide) ?_
      cases gc23
      exact c23 _ _ _ _
    · have gc23 := (if_neg b8).symm.trans gc23
      refine rx_p (L2 := [some (.ref 115), some (.int a1), some (.int a2), some (.int x6)]) (S2 := [.int x6, .int a1, .ref 145]) (pc2 := 31) op209_30 rfl rfl ?_
      refine ry_if_eq (tgt := 47) (pc2 := 34) op209_31 (by decide) (by decide) rfl (fun b9 => ?_) (fun b9 => ?_)
      · have gc23 := (if_pos b9).symm.trans gc23
        refine rx_p (L2 := [some (.ref 115), some (.int a1), some (.int a2), some (.int x6)]) (S2 := [.int a2, .int a1, .ref 145]) (pc2 := 48) op209_47 rfl rfl ?_
        refine rx_p (L2 := [some (.ref 115), some (.int a1), some (.int a2), some (.int x6)]) (S2 := [.ref 115, .int a2, .int a1, .ref 145]) (pc2 := 49) op209_48 rfl rfl ?_
        refine rx_gf (v := .ref 145) (pc2 := 52) op209_49 sp_115 rfl rfl rfl ?_
        refine rx_p (L2 := [some (.ref 115), some (.int a1), some (.int a2), some (.int x6)]) (S2 := [.int a1, .ref 145, .int a2, .int a1, .ref 145]) (pc2 := 53) op209_52 rfl rfl ?_
        obtain ⟨k10, gc23⟩ := rq_chk gc23
        refine rx_ia (pc2 := 54) op209_53 (rn_shlt sp_145) sp_145 k10 rfl rfl ?_
        refine ry_ic_ge (tgt := 61) (pc2 := 57) op209_54 (by decide) (by decide) rfl (fun b11 => ?_) (fun b11 => ?_)
        · have gc23 := (if_pos b11).symm.trans gc23
          refine rx_p (L2 := [some (.ref 115), some (.int a1), some (.int a2), some (.int x6)]) (S2 := [.int a2, .int a1, .ref 145]) (pc2 := 58) op209_57 rfl rfl ?_
          refine ry_go (tgt := 67) op209_58 (by decide) (by decide) ?_
          cases gc23
          exact c23 _ _ _ _
        · have gc23 := (if_neg b11).symm.trans gc23
          refine rx_p (L2 := [some (.ref 115), some (.int a1), some (.int a2), some (.int x6)]) (S2 := [.ref 115, .int a1, .ref 145]) (pc2 := 62) op209_61 rfl rfl ?_
          refine rx_gf (v := .ref 145) (pc2 := 65) op209_62 sp_115 rfl rfl rfl ?_
          refine rx_p (L2 := [some (.ref 115), some (.int a1), some (.int a2), some (.int x6)]) (S2 := [.int a1, .ref 145, .int a1, .ref 145]) (pc2 := 66) op209_65 rfl rfl ?_
          obtain ⟨k12, gc23⟩ := rq_chk gc23
          refine rx_ia (pc2 := 67) op209_66 (rn_shlt sp_145) sp_145 k12 rfl rfl ?_
          cases gc23
          exact c23 _ _ _ _
      · have gc23 := (if_neg b9).symm.trans gc23
        refine rx_p (L2 := [some (.ref 115), some (.int a1), some (.int a2), some (.int x6)]) (S2 := [.int a2, .int a1, .ref 145]) (pc2 := 35) op209_34 rfl rfl ?_
        refine rx_p (L2 := [some (.ref 115), some (.int a1), some (.int a2), some (.int x6)]) (S2 := [.ref 115, .int a2, .int a1, .ref 145]) (pc2 := 36) op209_35 rfl rfl ?_
        refine rx_gf (v := .ref 145) (pc2 := 39) op209_36 sp_115 rfl rfl rfl ?_
        refine rx_p (L2 := [some (.ref 115), some (.int a1), some (.int a2), some (.int x6)]) (S2 := [.int a1, .ref 145, .int a2, .int a1, .ref 145]) (pc2 := 40) op209_39 rfl rfl ?_
        obtain ⟨k13, gc23⟩ := rq_chk gc23
        refine rx_ia (pc2 := 41) op209_40 (rn_shlt sp_145) sp_145 k13 rfl rfl ?_
        refine ry_ic_le (tgt := 61) (pc2 := 44) op209_41 (by decide) (by decide) rfl (fun b14 => ?_) (fun b14 => ?_)
        · have gc23 := (if_pos b14).symm.trans gc23
          refine ry_go (tgt := 57) op209_44 (by decide) (by decide) ?_
          refine rx_p (L2 := [some (.ref 115), some (.int a1), some (.int a2), some (.int x6)]) (S2 := [.int a2, .int a1, .ref 145]) (pc2 := 58) op209_57 rfl rfl ?_
          refine ry_go (tgt := 67) op209_58 (by decide) (by decide) ?_
          cases gc23
          exact c23 _ _ _ _
        · have gc23 := (if_neg b14).symm.trans gc23
          refine rx_p (L2 := [some (.ref 115), some (.int a1), some (.int a2), some (.int x6)]) (S2 := [.ref 115, .int a1, .ref 145]) (pc2 := 62) op209_61 rfl rfl ?_
          refine rx_gf (v := .ref 145) (pc2 := 65) op209_62 sp_115 rfl rfl rfl ?_
          refine rx_p (L2 := [some (.ref 115), some (.int a1), some (.int a2), some (.int x6)]) (S2 := [.int a1, .ref 145, .int a1, .ref 145]) (pc2 := 66) op209_65 rfl rfl ?_
          obtain ⟨k15, gc23⟩ := rq_chk gc23
          refine rx_ia (pc2 := 67) op209_66 (rn_shlt sp_145) sp_145 k15 rfl rfl ?_
          cases gc23
          exact c23 _ _ _ _
  refine ry_if_ne (tgt := 14) (pc2 := 10) op209_7 (by decide) (by decide) rfl (fun b4 => ?_) (fun b4 => ?_)
  · have gc24 := (if_pos b4).symm.trans gc24
    refine rx_ic (v := 1) (pc2 := 11) op209_10 (by decide) rfl ?_
    refine ry_go (tgt := 15) op209_11 (by decide) (by decide) ?_
    cases gc24
    exact c24 _
  · have gc24 := (if_neg b4).symm.trans gc24
    refine rx_ic (v := 0) (pc2 := 15) op209_14 (by decide) rfl ?_
    cases gc24
    exact c24 _
/-! mo_bestFrom -/
theorem op207_0 : rn_op 207 0 = some (.aload_n 0, 1, 0, 0, 0) := by decide +kernel
theorem op207_1 : rn_op 207 1 = some (.invokevirtual 308, 3, 159, 1, 11) := by decide +kernel
theorem op207_4 : rn_op 207 4 = some (.iconst 0, 1, 0, 0, 0) := by decide +kernel
theorem op207_5 : rn_op 207 5 = some (.istore_n 2, 1, 0, 0, 0) := by decide +kernel
theorem op207_6 : rn_op 207 6 = some (.iload_n 2, 1, 0, 0, 0) := by decide +kernel
theorem op207_7 : rn_op 207 7 = some (.aload_n 0, 1, 0, 0, 0) := by decide +kernel
theorem op207_8 : rn_op 207 8 = some (.getfield 7, 3, 11, 0, 3) := by decide +kernel
theorem op207_11 : rn_op 207 11 = some (.iconst 1, 1, 0, 0, 0) := by decide +kernel
theorem op207_12 : rn_op 207 12 = some (.iaload, 1, 0, 0, 0) := by decide +kernel
theorem op207_13 : rn_op 207 13 = some (.if_icmp .ge 25, 3, 0, 0, 0) := by decide +kernel
theorem op207_16 : rn_op 207 16 = some (.aload_n 0, 1, 0, 0, 0) := by decide +kernel
theorem op207_17 : rn_op 207 17 = some (.getfield 91, 3, 11, 40, 3) := by decide +kernel
theorem op207_20 : rn_op 207 20 = some (.iload_n 2, 1, 0, 0, 0) := by decide +kernel
theorem op207_21 : rn_op 207 21 = some (.aload_n 0, 1, 0, 0, 0) := by decide +kernel
theorem op207_22 : rn_op 207 22 = some (.aload_n 0, 1, 0, 0, 0) := by decide +kernel
theorem op207_23 : rn_op 207 23 = some (.getfield 85, 3, 11, 38, 3) := by decide +kernel
theorem op207_26 : rn_op 207 26 = some (.iload_n 2, 1, 0, 0, 0) := by decide +kernel
theorem op207_27 : rn_op 207 27 = some (.iload_n 1, 1, 0, 0, 0) := by decide +kernel
theorem op207_28 : rn_op 207 28 = some (.invokevirtual 300, 3, 201, 4, 11) := by decide +kernel
theorem op207_31 : rn_op 207 31 = some (.iastore, 1, 0, 0, 0) := by decide +kernel
theorem op207_32 : rn_op 207 32 = some (.iinc 2 1, 3, 0, 0, 0) := by decide +kernel
theorem op207_35 : rn_op 207 35 = some (.goto (-29), 3, 0, 0, 0) := by decide +kernel
theorem op207_38 : rn_op 207 38 = some (.iconst 0, 1, 0, 0, 0) := by decide +kernel
theorem op207_39 : rn_op 207 39 = some (.istore_n 2, 1, 0, 0, 0) := by decide +kernel
theorem op207_40 : rn_op 207 40 = some (.iload_n 2, 1, 0, 0, 0) := by decide +kernel
theorem op207_41 : rn_op 207 41 = some (.iload_n 1, 1, 0, 0, 0) := by decide +kernel
theorem op207_42 : rn_op 207 42 = some (.if_icmp .ge 21, 3, 0, 0, 0) := by decide +kernel
theorem op207_45 : rn_op 207 45 = some (.aload_n 0, 1, 0, 0, 0) := by decide +kernel
theorem op207_46 : rn_op 207 46 = some (.getfield 88, 3, 11, 39, 3) := by decide +kernel
theorem op207_49 : rn_op 207 49 = some (.iload_n 2, 1, 0, 0, 0) := by decide +kernel
theorem op207_50 : rn_op 207 50 = some (.aload_n 0, 1, 0, 0, 0) := by decide +kernel
theorem op207_51 : rn_op 207 51 = some (.getfield 85, 3, 11, 38, 3) := by decide +kernel
theorem op207_54 : rn_op 207 54 = some (.iload_n 2, 1, 0, 0, 0) := by decide +kernel
theorem op207_55 : rn_op 207 55 = some (.iaload, 1, 0, 0, 0) := by decide +kernel
theorem op207_56 : rn_op 207 56 = some (.iastore, 1, 0, 0, 0) := by decide +kernel
theorem op207_57 : rn_op 207 57 = some (.iinc 2 1, 3, 0, 0, 0) := by decide +kernel
theorem op207_60 : rn_op 207 60 = some (.goto (-20), 3, 0, 0, 0) := by decide +kernel
theorem op207_63 : rn_op 207 63 = some (.iload_n 1, 1, 0, 0, 0) := by decide +kernel
theorem op207_64 : rn_op 207 64 = some (.aload_n 0, 1, 0, 0, 0) := by decide +kernel
theorem op207_65 : rn_op 207 65 = some (.invokevirtual 167, 3, 155, 1, 11) := by decide +kernel
theorem op207_68 : rn_op 207 68 = some (.if_icmp .ne 5, 3, 0, 0, 0) := by decide +kernel
theorem op207_71 : rn_op 207 71 = some (.iconst 0, 1, 0, 0, 0) := by decide +kernel
theorem op207_72 : rn_op 207 72 = some (.ireturn, 1, 0, 0, 0) := by decide +kernel
theorem op207_73 : rn_op 207 73 = some (.iload_n 1, 1, 0, 0, 0) := by decide +kernel
theorem op207_74 : rn_op 207 74 = some (.istore_n 2, 1, 0, 0, 0) := by decide +kernel
theorem op207_75 : rn_op 207 75 = some (.aload_n 0, 1, 0, 0, 0) := by decide +kernel
theorem op207_76 : rn_op 207 76 = some (.iload_n 1, 1, 0, 0, 0) := by decide +kernel
theorem op207_77 : rn_op 207 77 = some (.invokevirtual 315, 3, 208, 2, 11) := by decide +kernel
theorem op207_80 : rn_op 207 80 = some (.aload_n 0, 1, 0, 0, 0) := by decide +kernel
theorem op207_81 : rn_op 207 81 = some (.getfield 94, 3, 11, 41, 3) := by decide +kernel
theorem op207_84 : rn_op 207 84 = some (.iload_n 2, 1, 0, 0, 0) := by decide +kernel
theorem op207_85 : rn_op 207 85 = some (.iaload, 1, 0, 0, 0) := by decide +kernel
theorem op207_86 : rn_op 207 86 = some (.ifCond .eq 116, 3, 0, 0, 0) := by decide +kernel
theorem op207_89 : rn_op 207 89 = some (.iconst 0, 1, 0, 0, 0) := by decide +kernel
theorem op207_90 : rn_op 207 90 = some (.istore_n 3, 1, 0, 0, 0) := by decide +kernel
theorem op207_91 : rn_op 207 91 = some (.aload_n 0, 1, 0, 0, 0) := by decide +kernel
theorem op207_92 : rn_op 207 92 = some (.getfield 94, 3, 11, 41, 3) := by decide +kernel
theorem op207_95 : rn_op 207 95 = some (.iload_n 2, 1, 0, 0, 0) := by decide +kernel
theorem op207_96 : rn_op 207 96 = some (.iaload, 1, 0, 0, 0) := by decide +kernel
theorem op207_97 : rn_op 207 97 = some (.iload_n 3, 1, 0, 0, 0) := by decide +kernel
theorem op207_98 : rn_op 207 98 = some (.ishr, 1, 0, 0, 0) := by decide +kernel
theorem op207_99 : rn_op 207 99 = some (.iconst 1, 1, 0, 0, 0) := by decide +kernel
theorem op207_100 : rn_op 207 100 = some (.iand, 1, 0, 0, 0) := by decide +kernel
theorem op207_101 : rn_op 207 101 = some (.ifCond .ne 9, 3, 0, 0, 0) := by decide +kernel
theorem op207_104 : rn_op 207 104 = some (.iinc 3 1, 3, 0, 0, 0) := by decide +kernel
theorem op207_107 : rn_op 207 107 = some (.goto (-16), 3, 0, 0, 0) := by decide +kernel
theorem op207_110 : rn_op 207 110 = some (.aload_n 0, 1, 0, 0, 0) := by decide +kernel
theorem op207_111 : rn_op 207 111 = some (.getfield 94, 3, 11, 41, 3) := by decide +kernel
theorem op207_114 : rn_op 207 114 = some (.iload_n 2, 1, 0, 0, 0) := by decide +kernel
theorem op207_115 : rn_op 207 115 = some (.dup2, 1, 0, 0, 0) := by decide +kernel
theorem op207_116 : rn_op 207 116 = some (.iaload, 1, 0, 0, 0) := by decide +kernel
theorem op207_117 : rn_op 207 117 = some (.iconst 1, 1, 0, 0, 0) := by decide +kernel
theorem op207_118 : rn_op 207 118 = some (.iload_n 3, 1, 0, 0, 0) := by decide +kernel
theorem op207_119 : rn_op 207 119 = some (.ishl, 1, 0, 0, 0) := by decide +kernel
theorem op207_120 : rn_op 207 120 = some (.iconst (-1), 1, 0, 0, 0) := by decide +kernel
theorem op207_121 : rn_op 207 121 = some (.ixor, 1, 0, 0, 0) := by decide +kernel
theorem op207_122 : rn_op 207 122 = some (.iand, 1, 0, 0, 0) := by decide +kernel
theorem op207_123 : rn_op 207 123 = some (.iastore, 1, 0, 0, 0) := by decide +kernel
theorem op207_124 : rn_op 207 124 = some (.aload_n 0, 1, 0, 0, 0) := by decide +kernel
theorem op207_125 : rn_op 207 125 = some (.getfield 88, 3, 11, 39, 3) := by decide +kernel
theorem op207_128 : rn_op 207 128 = some (.iload_n 2, 1, 0, 0, 0) := by decide +kernel
theorem op207_129 : rn_op 207 129 = some (.iload_n 3, 1, 0, 0, 0) := by decide +kernel
theorem op207_130 : rn_op 207 130 = some (.iastore, 1, 0, 0, 0) := by decide +kernel
theorem op207_131 : rn_op 207 131 = some (.aload_n 0, 1, 0, 0, 0) := by decide +kernel
theorem op207_132 : rn_op 207 132 = some (.getfield 91, 3, 11, 40, 3) := by decide +kernel
theorem op207_135 : rn_op 207 135 = some (.aload_n 0, 1, 0, 0, 0) := by decide +kernel
theorem op207_136 : rn_op 207 136 = some (.iload_n 2, 1, 0, 0, 0) := by decide +kernel
theorem op207_137 : rn_op 207 137 = some (.invokevirtual 285, 3, 200, 2, 11) := by decide +kernel
theorem op207_140 : rn_op 207 140 = some (.dup2, 1, 0, 0, 0) := by decide +kernel
theorem op207_141 : rn_op 207 141 = some (.iaload, 1, 0, 0, 0) := by decide +kernel
theorem op207_142 : rn_op 207 142 = some (.iconst 1, 1, 0, 0, 0) := by decide +kernel
theorem op207_143 : rn_op 207 143 = some (.iload_n 3, 1, 0, 0, 0) := by decide +kernel
theorem op207_144 : rn_op 207 144 = some (.ishl, 1, 0, 0, 0) := by decide +kernel
theorem op207_145 : rn_op 207 145 = some (.iconst (-1), 1, 0, 0, 0) := by decide +kernel
theorem op207_146 : rn_op 207 146 = some (.ixor, 1, 0, 0, 0) := by decide +kernel
theorem op207_147 : rn_op 207 147 = some (.iand, 1, 0, 0, 0) := by decide +kernel
theorem op207_148 : rn_op 207 148 = some (.iastore, 1, 0, 0, 0) := by decide +kernel
theorem op207_149 : rn_op 207 149 = some (.iinc 2 1, 3, 0, 0, 0) := by decide +kernel
theorem op207_152 : rn_op 207 152 = some (.iload_n 2, 1, 0, 0, 0) := by decide +kernel
theorem op207_153 : rn_op 207 153 = some (.aload_n 0, 1, 0, 0, 0) := by decide +kernel
theorem op207_154 : rn_op 207 154 = some (.invokevirtual 167, 3, 155, 1, 11) := by decide +kernel
theorem op207_157 : rn_op 207 157 = some (.if_icmp .ge 11, 3, 0, 0, 0) := by decide +kernel
theorem op207_160 : rn_op 207 160 = some (.aload_n 0, 1, 0, 0, 0) := by decide +kernel
theorem op207_161 : rn_op 207 161 = some (.iload_n 2, 1, 0, 0, 0) := by decide +kernel
theorem op207_162 : rn_op 207 162 = some (.invokevirtual 315, 3, 208, 2, 11) := by decide +kernel
theorem op207_165 : rn_op 207 165 = some (.goto (-85), 3, 0, 0, 0) := by decide +kernel
theorem op207_168 : rn_op 207 168 = some (.aload_n 0, 1, 0, 0, 0) := by decide +kernel
theorem op207_169 : rn_op 207 169 = some (.aload_n 0, 1, 0, 0, 0) := by decide +kernel
theorem op207_170 : rn_op 207 170 = some (.getfield 88, 3, 11, 39, 3) := by decide +kernel
theorem op207_173 : rn_op 207 173 = some (.aload_n 0, 1, 0, 0, 0) := by decide +kernel
theorem op207_174 : rn_op 207 174 = some (.getfield 7, 3, 11, 0, 3) := by decide +kernel
theorem op207_177 : rn_op 207 177 = some (.bipush 88, 2, 0, 0, 0) := by decide +kernel
theorem op207_179 : rn_op 207 179 = some (.iaload, 1, 0, 0, 0) := by decide +kernel
theorem op207_180 : rn_op 207 180 = some (.iload_n 2, 1, 0, 0, 0) := by decide +kernel
theorem op207_181 : rn_op 207 181 = some (.invokevirtual 288, 3, 160, 4, 11) := by decide +kernel
theorem op207_184 : rn_op 207 184 = some (.aload_n 0, 1, 0, 0, 0) := by decide +kernel
theorem op207_185 : rn_op 207 185 = some (.getfield 97, 3, 11, 42, 3) := by decide +kernel
theorem op207_188 : rn_op 207 188 = some (.iload_n 2, 1, 0, 0, 0) := by decide +kernel
theorem op207_189 : rn_op 207 189 = some (.aload_n 0, 1, 0, 0, 0) := by decide +kernel
theorem op207_190 : rn_op 207 190 = some (.iload_n 1, 1, 0, 0, 0) := by decide +kernel
theorem op207_191 : rn_op 207 191 = some (.aload_n 0, 1, 0, 0, 0) := by decide +kernel
theorem op207_192 : rn_op 207 192 = some (.getfield 7, 3, 11, 0, 3) := by decide +kernel
theorem op207_195 : rn_op 207 195 = some (.iconst 1, 1, 0, 0, 0) := by decide +kernel
theorem op207_196 : rn_op 207 196 = some (.iaload, 1, 0, 0, 0) := by decide +kernel
theorem op207_197 : rn_op 207 197 = some (.idiv, 1, 0, 0, 0) := by decide +kernel
theorem op207_198 : rn_op 207 198 = some (.invokevirtual 318, 3, 163, 2, 11) := by decide +kernel
theorem op207_201 : rn_op 207 201 = some (.iastore, 1, 0, 0, 0) := by decide +kernel
theorem op207_202 : rn_op 207 202 = some (.iload_n 2, 1, 0, 0, 0) := by decide +kernel
theorem op207_203 : rn_op 207 203 = some (.iload_n 1, 1, 0, 0, 0) := by decide +kernel
theorem op207_204 : rn_op 207 204 = some (.if_icmp .ne 10, 3, 0, 0, 0) := by decide +kernel
theorem op207_207 : rn_op 207 207 = some (.aload_n 0, 1, 0, 0, 0) := by decide +kernel
theorem op207_208 : rn_op 207 208 = some (.getfield 97, 3, 11, 42, 3) := by decide +kernel
theorem op207_211 : rn_op 207 211 = some (.iload_n 1, 1, 0, 0, 0) := by decide +kernel
theorem op207_212 : rn_op 207 212 = some (.iaload, 1, 0, 0, 0) := by decide +kernel
theorem op207_213 : rn_op 207 213 = some (.ireturn, 1, 0, 0, 0) := by decide +kernel
theorem op207_214 : rn_op 207 214 = some (.aload_n 0, 1, 0, 0, 0) := by decide +kernel
theorem op207_215 : rn_op 207 215 = some (.getfield 97, 3, 11, 42, 3) := by decide +kernel
theorem op207_218 : rn_op 207 218 = some (.iload_n 2, 1, 0, 0, 0) := by decide +kernel
theorem op207_219 : rn_op 207 219 = some (.iaload, 1, 0, 0, 0) := by decide +kernel
theorem op207_220 : rn_op 207 220 = some (.istore_n 3, 1, 0, 0, 0) := by decide +kernel
theorem op207_221 : rn_op 207 221 = some (.iinc 2 (-1), 3, 0, 0, 0) := by decide +kernel
theorem op207_224 : rn_op 207 224 = some (.aload_n 0, 1, 0, 0, 0) := by decide +kernel
theorem op207_225 : rn_op 207 225 = some (.aload_n 0, 1, 0, 0, 0) := by decide +kernel
theorem op207_226 : rn_op 207 226 = some (.getfield 88, 3, 11, 39, 3) := by decide +kernel
theorem op207_229 : rn_op 207 229 = some (.aload_n 0, 1, 0, 0, 0) := by decide +kernel
theorem op207_230 : rn_op 207 230 = some (.getfield 7, 3, 11, 0, 3) := by decide +kernel
theorem op207_233 : rn_op 207 233 = some (.bipush 88, 2, 0, 0, 0) := by decide +kernel
theorem op207_235 : rn_op 207 235 = some (.iaload, 1, 0, 0, 0) := by decide +kernel
theorem op207_236 : rn_op 207 236 = some (.iload_n 2, 1, 0, 0, 0) := by decide +kernel
theorem op207_237 : rn_op 207 237 = some (.invokevirtual 288, 3, 160, 4, 11) := by decide +kernel
theorem op207_240 : rn_op 207 240 = some (.aload_n 0, 1, 0, 0, 0) := by decide +kernel
theorem op207_241 : rn_op 207 241 = some (.getfield 91, 3, 11, 40, 3) := by decide +kernel
theorem op207_244 : rn_op 207 244 = some (.aload_n 0, 1, 0, 0, 0) := by decide +kernel
theorem op207_245 : rn_op 207 245 = some (.iload_n 2, 1, 0, 0, 0) := by decide +kernel
theorem op207_246 : rn_op 207 246 = some (.invokevirtual 285, 3, 200, 2, 11) := by decide +kernel
theorem op207_249 : rn_op 207 249 = some (.dup2, 1, 0, 0, 0) := by decide +kernel
theorem op207_250 : rn_op 207 250 = some (.iaload, 1, 0, 0, 0) := by decide +kernel
theorem op207_251 : rn_op 207 251 = some (.iconst 1, 1, 0, 0, 0) := by decide +kernel
theorem op207_252 : rn_op 207 252 = some (.aload_n 0, 1, 0, 0, 0) := by decide +kernel
theorem op207_253 : rn_op 207 253 = some (.getfield 88, 3, 11, 39, 3) := by decide +kernel
theorem op207_256 : rn_op 207 256 = some (.iload_n 2, 1, 0, 0, 0) := by decide +kernel
theorem op207_257 : rn_op 207 257 = some (.iaload, 1, 0, 0, 0) := by decide +kernel
theorem op207_258 : rn_op 207 258 = some (.ishl, 1, 0, 0, 0) := by decide +kernel
theorem op207_259 : rn_op 207 259 = some (.ior, 1, 0, 0, 0) := by decide +kernel
theorem op207_260 : rn_op 207 260 = some (.iastore, 1, 0, 0, 0) := by decide +kernel
theorem op207_261 : rn_op 207 261 = some (.aload_n 0, 1, 0, 0, 0) := by decide +kernel
theorem op207_262 : rn_op 207 262 = some (.iload_n 2, 1, 0, 0, 0) := by decide +kernel
theorem op207_263 : rn_op 207 263 = some (.iload_n 3, 1, 0, 0, 0) := by decide +kernel
theorem op207_264 : rn_op 207 264 = some (.invokevirtual 321, 3, 209, 3, 11) := by decide +kernel
theorem op207_267 : rn_op 207 267 = some (.goto (-187), 3, 0, 0, 0) := by decide +kernel
def mo_bestFrom_l6 (a1 : Int32) : Nat → Int32 → rn_Mem → Option (rn_Mem)
  | 0, _, _ => none
  | n + 1, a2, m =>
    if a2 < (m.1 116 1) then
      (mo_handAt n 141 a2 a1 m).bind fun (r5, m4) =>
      if rn_in a2 4 = true then
        (some (rm_i m4 143 a2.toNatClampNeg r5)).bind fun (m7 : rn_Mem) =>
        (some (a2 + 1)).bind fun (x9 : Int32) =>
        mo_bestFrom_l6 a1 n x9 m7
      else none
    else
      some m
def mo_bestFrom_l40 (a1 : Int32) : Nat → Int32 → rn_Mem → Option (rn_Mem)
  | 0, _, _ => none
  | n + 1, a2, m =>
    if a2 < a1 then
      if rn_in a2 12 = true then
        if rn_in a2 12 = true then
          (some (rm_i m 142 a2.toNatClampNeg (m.1 141 a2.toNatClampNeg))).bind fun (m15 : rn_Mem) =>
          (some (a2 + 1)).bind fun (x17 : Int32) =>
          mo_bestFrom_l40 a1 n x17 m15
        else none
      else none
    else
      some m
def mo_bestFrom_l91 (a1 : Int32) (a2 : Int32) : Nat → Int32 → rn_Mem → Option (Int32 × rn_Mem)
  | 0, _, _ => none
  | n + 1, a3, m =>
    if rn_in a2 13 = true then
      if (((m.1 144 a2.toNatClampNeg) >>> (a3 &&& 31)) &&& 1) = 0 then
        (some (a3 + 1)).bind fun (x31 : Int32) =>
        mo_bestFrom_l91 a1 a2 n x31 m
      else
        some (a3, m)
    else none
def mo_bestFrom_l80 (a1 : Int32) : Nat → Int32 → rn_Mem → Option (Int32 × rn_Mem)
  | 0, _, _ => none
  | n + 1, a2, m =>
    if rn_in a2 13 = true then
      if (m.1 144 a2.toNatClampNeg) = 0 then
        if a2 = a1 then
          if rn_in a1 13 = true then
            some (m.1 145 a1.toNatClampNeg, m)
          else none
        else
          if rn_in a2 13 = true then
            (some (m.1 145 a2.toNatClampNeg)).bind fun (x64 : Int32) =>
            (some (a2 + (-1))).bind fun (x65 : Int32) =>
            (mo_findLeaders n 142 (m.1 116 88) x65 m).bind fun m66 =>
            (mo_playerAt n x65 m66).bind fun (r69, m68) =>
            if rn_in r69 4 = true then
              if rn_in x65 12 = true then
                if rn_in r69 4 = true then
                  (some (rm_i m68 143 r69.toNatClampNeg ((m68.1 143 r69.toNatClampNeg) ||| ((1 : Int32) <<< ((m68.1 142 x65.toNatClampNeg) &&& 31))))).bind fun (m73 : rn_Mem) =>
                  (mo_takeValue n x65 x64 m73).bind fun m75 =>
                  mo_bestFrom_l80 a1 n x65 m75
                else none
              else none
            else none
          else none
      else
        (mo_bestFrom_l91 a1 a2 n 0 m).bind fun (x78, m77) =>
        if rn_in a2 13 = true then
          if rn_in a2 13 = true then
            (some (rm_i m77 144 a2.toNatClampNeg ((m77.1 144 a2.toNatClampNeg) &&& (((1 : Int32) <<< (x78 &&& 31)) ^^^ (-1))))).bind fun (m80 : rn_Mem) =>
            if rn_in a2 12 = true then
              (some (rm_i m80 142 a2.toNatClampNeg x78)).bind fun (m82 : rn_Mem) =>
              (mo_playerAt n a2 m82).bind fun (r85, m84) =>
              if rn_in r85 4 = true then
                if rn_in r85 4 = true then
                  (some (rm_i m84 143 r85.toNatClampNeg ((m84.1 143 r85.toNatClampNeg) &&& (((1 : Int32) <<< (x78 &&& 31)) ^^^ (-1))))).bind fun (m88 : rn_Mem) =>
                  (some (a2 + 1)).bind fun (x90 : Int32) =>
                  (mo_size n m88).bind fun (r92, m91) =>
                  if x90 < r92 then
                    (mo_comeTo n x90 m91).bind fun m95 =>
                    mo_bestFrom_l80 a1 n x90 m95
                  else
                    (mo_findLeaders n 142 (m91.1 116 88) x90 m91).bind fun m97 =>
                    if ¬ (m97.1 116 1) = 0 then
                      (mo_sideWins n (a1 / (m97.1 116 1)) m97).bind fun (r101, m100) =>
                      if rn_in x90 13 = true then
                        (some (rm_i m100 145 x90.toNatClampNeg r101)).bind fun (m103 : rn_Mem) =>
                        if x90 = a1 then
                          if rn_in a1 13 = true then
                            some (m103.1 145 a1.toNatClampNeg, m103)
                          else none
                        else
                          if rn_in x90 13 = true then
                            (some (m103.1 145 x90.toNatClampNeg)).bind fun (x108 : Int32) =>
                            (some (x90 + (-1))).bind fun (x109 : Int32) =>
                            (mo_findLeaders n 142 (m103.1 116 88) x109 m103).bind fun m110 =>
                            (mo_playerAt n x109 m110).bind fun (r113, m112) =>
                            if rn_in r113 4 = true then
                              if rn_in x109 12 = true then
                                if rn_in r113 4 = true then
                                  (some (rm_i m112 143 r113.toNatClampNeg ((m112.1 143 r113.toNatClampNeg) ||| ((1 : Int32) <<< ((m112.1 142 x109.toNatClampNeg) &&& 31))))).bind fun (m117 : rn_Mem) =>
                                  (mo_takeValue n x109 x108 m117).bind fun m119 =>
                                  mo_bestFrom_l80 a1 n x109 m119
                                else none
                              else none
                            else none
                          else none
                      else none
                    else none
                else none
              else none
            else none
          else none
        else none
    else none
def mo_bestFrom (n : Nat) (a1 : Int32) (m : rn_Mem) : Option (Int32 × rn_Mem) :=
  (mo_takeRow n m).bind fun m1 =>
  (mo_bestFrom_l6 a1 n 0 m1).bind fun m10 =>
  (mo_bestFrom_l40 a1 n 0 m10).bind fun m18 =>
  (mo_size n m18).bind fun (r22, m21) =>
  if a1 = r22 then
    some (0, m21)
  else
    (mo_comeTo n a1 m21).bind fun m25 =>
    (mo_bestFrom_l80 a1 n a1 m25).bind fun o =>
    some o
set_option maxHeartbeats 4000000 in
set_option maxRecDepth 20000 in
theorem mo_bestFrom_l6_ok (xs : List Int32) {d : Nat} (hd : 4 ≤ d + 1) {a1 : Int32} {r : Option Value} {τ : rn_H} {out : rn_Mem} (hr : ∀ (mO : rn_Mem), out = mO → ∀ (o2 o3 : Option Value), rn_R xs (d + 1) 207 38 [some (.ref 115), some (.int a1), o2, o3] [] (rn_SH, mO) r τ) : ∀ (n : Nat) (a2 : Int32) (o3 : Option Value) (m : rn_Mem), mo_bestFrom_l6 a1 n a2 m = some out → rn_R xs (d + 1) 207 6 [some (.ref 115), some (.int a1), some (.int a2), o3] [] (rn_SH, m) r τ := by
  intro n
  induction n with
  | zero =>
    intro _ _ _ h
    cases h
  | succ n ih =>
    intro a2 o3 m h
    unfold mo_bestFrom_l6 at h
    try dsimp only at h
    refine rx_p (L2 := [some (.ref 115), some (.int a1), some (.int a2), o3]) (S2 := [.int a2]) (pc2 := 7) op207_6 rfl rfl ?_
    refine rx_p (L2 := [some (.ref 115), some (.int a1), some (.int a2), o3]) (S2 := [.ref 115, .int a2]) (pc2 := 8) op207_7 rfl rfl ?_
    refine rx_gf (v := .ref 116) (pc2 := 11) op207_8 sp_115 rfl rfl rfl ?_
    refine rx_ic (v := 1) (pc2 := 12) op207_11 (by decide) rfl ?_
    refine rx_ia (j := 1) (pc2 := 13) op207_12 (rn_shlt sp_116) sp_116 (by decide) (by decide) rfl ?_
    refine ry_ic_ge (tgt := 38) (pc2 := 16) op207_13 (by decide) (by decide) rfl (fun b3 => ?_) (fun b3 => ?_)
    · have h := (if_pos b3).symm.trans h
      refine rx_p (L2 := [some (.ref 115), some (.int a1), some (.int a2), o3]) (S2 := [.ref 115]) (pc2 := 17) op207_16 rfl rfl ?_
      refine rx_gf (v := .ref 143) (pc2 := 20) op207_17 sp_115 rfl rfl rfl ?_
      refine rx_p (L2 := [some (.ref 115), some (.int a1), some (.int a2), o3]) (S2 := [.int a2, .ref 143]) (pc2 := 21) op207_20 rfl rfl ?_
      refine rx_p (L2 := [some (.ref 115), some (.int a1), some (.int a2), o3]) (S2 := [.ref 115, .int a2, .ref 143]) (pc2 := 22) op207_21 rfl rfl ?_
      refine rx_p (L2 := [some (.ref 115), some (.int a1), some (.int a2), o3]) (S2 := [.ref 115, .ref 115, .int a2, .ref 143]) (pc2 := 23) op207_22 rfl rfl ?_
      refine rx_gf (v := .ref 141) (pc2 := 26) op207_23 sp_115 rfl rfl rfl ?_
      refine rx_p (L2 := [some (.ref 115), some (.int a1), some (.int a2), o3]) (S2 := [.int a2, .ref 141, .ref 115, .int a2, .ref 143]) (pc2 := 27) op207_26 rfl rfl ?_
      refine rx_p (L2 := [some (.ref 115), some (.int a1), some (.int a2), o3]) (S2 := [.int a1, .int a2, .ref 141, .ref 115, .int a2, .ref 143]) (pc2 := 28) op207_27 rfl rfl ?_
      obtain ⟨⟨r5, m4⟩, f6, h⟩ := rq_bind h
      try dsimp only at h
      refine ry_iv (p := 115) (vs := [.ref 141, .int a2, .int a1]) (T := [.int a2, .ref 143]) (pc2 := 31) op207_28 ms_201 (by decide) rfl rfl (Nat.le_of_ble_eq_true rfl) (Nat.le_of_ble_eq_true rfl) sp_115 (mo_handAt_ok xs (by omega) sr_141 f6) rfl ?_
      show rn_R _ _ _ _ _ [.int r5, .int a2, .ref 143] _ _ _
      obtain ⟨k8, h⟩ := rq_chk h
      obtain ⟨m7, em7, h⟩ := rq_bv h
      refine rx_is (m2 := m7) (pc2 := 32) op207_31 sp_143 k8 rfl em7 rfl ?_
      obtain ⟨x9, ex9, h⟩ := rq_bv h
      refine rx_inc (w := 1) (v := x9) (L2 := [some (.ref 115), some (.int a1), some (.int x9), o3]) (pc2 := 35) op207_32 rfl (by decide) ex9 rfl rfl ?_
      refine ry_go (tgt := 6) op207_35 (by decide) (by decide) ?_
      exact ih _ _ _ h
    · have h := (if_neg b3).symm.trans h
      cases h
      exact hr _ rfl _ _
set_option maxHeartbeats 4000000 in
set_option maxRecDepth 20000 in
theorem mo_bestFrom_l40_ok (xs : List Int32) {d : Nat} (hd : 4 ≤ d + 1) {a1 : Int32} {r : Option Value} {τ : rn_H} {out : rn_Mem} (hr : ∀ (mO : rn_Mem), out = mO → ∀ (o2 o3 : Option Value), rn_R xs (d + 1) 207 63 [some (.ref 115), some (.int a1), o2, o3] [] (rn_SH, mO) r τ) : ∀ (n : Nat) (a2 : Int32) (o3 : Option Value) (m : rn_Mem), mo_bestFrom_l40 a1 n a2 m = some out → rn_R xs (d + 1) 207 40 [some (.ref 115), some (.int a1), some (.int a2), o3] [] (rn_SH, m) r τ := by
  intro n
  induction n with
  | zero =>
    intro _ _ _ h
    cases h
  | succ n ih =>
    intro a2 o3 m h
    unfold mo_bestFrom_l40 at h
    try dsimp only at h
    refine rx_p (L2 := [some (.ref 115), some (.int a1), some (.int a2), o3]) (S2 := [.int a2]) (pc2 := 41) op207_40 rfl rfl ?_
    refine rx_p (L2 := [some (.ref 115), some (.int a1), some (.int a2), o3]) (S2 := [.int a1, .int a2]) (pc2 := 42) op207_41 rfl rfl ?_
    refine ry_ic_ge (tgt := 63) (pc2 := 45) op207_42 (by decide) (by decide) rfl (fun b13 => ?_) (fun b13 => ?_)
    · have h := (if_pos b13).symm.trans h
      refine rx_p (L2 := [some (.ref 115), some (.int a1), some (.int a2), o3]) (S2 := [.ref 115]) (pc2 := 46) op207_45 rfl rfl ?_
      refine rx_gf (v := .ref 142) (pc2 := 49) op207_46 sp_115 rfl rfl rfl ?_
      refine rx_p (L2 := [some (.ref 115), some (.int a1), some (.int a2), o3]) (S2 := [.int a2, .ref 142]) (pc2 := 50) op207_49 rfl rfl ?_
      refine rx_p (L2 := [some (.ref 115), some (.int a1), some (.int a2), o3]) (S2 := [.ref 115, .int a2, .ref 142]) (pc2 := 51) op207_50 rfl rfl ?_
      refine rx_gf (v := .ref 141) (pc2 := 54) op207_51 sp_115 rfl rfl rfl ?_
      refine rx_p (L2 := [some (.ref 115), some (.int a1), some (.int a2), o3]) (S2 := [.int a2, .ref 141, .int a2, .ref 142]) (pc2 := 55) op207_54 rfl rfl ?_
      obtain ⟨k14, h⟩ := rq_chk h
      refine rx_ia (pc2 := 56) op207_55 (rn_shlt sp_141) sp_141 k14 rfl rfl ?_
      obtain ⟨k16, h⟩ := rq_chk h
      obtain ⟨m15, em15, h⟩ := rq_bv h
      refine rx_is (m2 := m15) (pc2 := 57) op207_56 sp_142 k16 rfl em15 rfl ?_
      obtain ⟨x17, ex17, h⟩ := rq_bv h
      refine rx_inc (w := 1) (v := x17) (L2 := [some (.ref 115), some (.int a1), some (.int x17), o3]) (pc2 := 60) op207_57 rfl (by decide) ex17 rfl rfl ?_
      refine ry_go (tgt := 40) op207_60 (by decide) (by decide) ?_
      exact ih _ _ _ h
    · have h := (if_neg b13).symm.trans h
      cases h
      exact hr _ rfl _ _
set_option maxHeartbeats 4000000 in
set_option maxRecDepth 20000 in
theorem mo_bestFrom_l91_ok (xs : List Int32) {d : Nat} (hd : 4 ≤ d + 1) {a1 : Int32} {a2 : Int32} {r : Option Value} {τ : rn_H} {out : Int32 × rn_Mem} (hr : ∀ (z3 : Int32) (mO : rn_Mem), out = (z3, mO) → ∀ (_ : Unit), rn_R xs (d + 1) 207 110 [some (.ref 115), some (.int a1), some (.int a2), some (.int z3)] [] (rn_SH, mO) r τ) : ∀ (n : Nat) (a3 : Int32) (m : rn_Mem), mo_bestFrom_l91 a1 a2 n a3 m = some out → rn_R xs (d + 1) 207 91 [some (.ref 115), some (.int a1), some (.int a2), some (.int a3)] [] (rn_SH, m) r τ := by
  intro n
  induction n with
  | zero =>
    intro _ _ h
    cases h
  | succ n ih =>
    intro a3 m h
    unfold mo_bestFrom_l91 at h
    try dsimp only at h
    refine rx_p (L2 := [some (.ref 115), some (.int a1), some (.int a2), some (.int a3)]) (S2 := [.ref 115]) (pc2 := 92) op207_91 rfl rfl ?_
    refine rx_gf (v := .ref 144) (pc2 := 95) op207_92 sp_115 rfl rfl rfl ?_
    refine rx_p (L2 := [some (.ref 115), some (.int a1), some (.int a2), some (.int a3)]) (S2 := [.int a2, .ref 144]) (pc2 := 96) op207_95 rfl rfl ?_
    obtain ⟨k29, h⟩ := rq_chk h
    refine rx_ia (pc2 := 97) op207_96 (rn_shlt sp_144) sp_144 k29 rfl rfl ?_
    refine rx_p (L2 := [some (.ref 115), some (.int a1), some (.int a2), some (.int a3)]) (S2 := [.int a3, .int (m.1 144 a2.toNatClampNeg)]) (pc2 := 98) op207_97 rfl rfl ?_
    refine rx_p (L2 := [some (.ref 115), some (.int a1), some (.int a2), some (.int a3)]) (S2 := [.int ((m.1 144 a2.toNatClampNeg) >>> (a3 &&& 31))]) (pc2 := 99) op207_98 rfl rfl ?_
    refine rx_ic (v := 1) (pc2 := 100) op207_99 (by decide) rfl ?_
    refine rx_p (L2 := [some (.ref 115), some (.int a1), some (.int a2), some (.int a3)]) (S2 := [.int (((m.1 144 a2.toNatClampNeg) >>> (a3 &&& 31)) &&& 1)]) (pc2 := 101) op207_100 rfl rfl ?_
    refine ry_if_ne (tgt := 110) (pc2 := 104) op207_101 (by decide) (by decide) rfl (fun b30 => ?_) (fun b30 => ?_)
    · have h := (if_pos b30).symm.trans h
      obtain ⟨x31, ex31, h⟩ := rq_bv h
      refine rx_inc (w := 1) (v := x31) (L2 := [some (.ref 115), some (.int a1), some (.int a2), some (.int x31)]) (pc2 := 107) op207_104 rfl (by decide) ex31 rfl rfl ?_
      refine ry_go (tgt := 91) op207_107 (by decide) (by decide) ?_
      exact ih _ _ h
    · have h := (if_neg b30).symm.trans h
      cases h
      exact hr _ _ rfl ()
set_option maxHeartbeats 4000000 in
set_option maxRecDepth 20000 in
theorem mo_bestFrom_l80_ok (xs : List Int32) {d : Nat} (hd : 4 ≤ d + 1) {a1 : Int32} {r : Option Value} {τ : rn_H} {out : Int32 × rn_Mem} (hl : ∀ (rO : Int32) (mO : rn_Mem), out = (rO, mO) → r = (some (.int rO)) ∧ τ = (rn_SH, mO)) : ∀ (n : Nat) (a2 : Int32) (o3 : Option Value) (m : rn_Mem), mo_bestFrom_l80 a1 n a2 m = some out → rn_R xs (d + 1) 207 80 [some (.ref 115), some (.int a1), some (.int a2), o3] [] (rn_SH, m) r τ := by
  intro n
  induction n with
  | zero =>
    intro _ _ _ h
    cases h
  | succ n ih =>
    intro a2 o3 m h
    unfold mo_bestFrom_l80 at h
    try dsimp only at h
    refine rx_p (L2 := [some (.ref 115), some (.int a1), some (.int a2), o3]) (S2 := [.ref 115]) (pc2 := 81) op207_80 rfl rfl ?_
    refine rx_gf (v := .ref 144) (pc2 := 84) op207_81 sp_115 rfl rfl rfl ?_
    refine rx_p (L2 := [some (.ref 115), some (.int a1), some (.int a2), o3]) (S2 := [.int a2, .ref 144]) (pc2 := 85) op207_84 rfl rfl ?_
    obtain ⟨k27, h⟩ := rq_chk h
    refine rx_ia (pc2 := 86) op207_85 (rn_shlt sp_144) sp_144 k27 rfl rfl ?_
    refine ry_if_eq (tgt := 202) (pc2 := 89) op207_86 (by decide) (by decide) rfl (fun b28 => ?_) (fun b28 => ?_)
    · have h := (if_pos b28).symm.trans h
      refine rx_p (L2 := [some (.ref 115), some (.int a1), some (.int a2), o3]) (S2 := [.int a2]) (pc2 := 203) op207_202 rfl rfl ?_
      refine rx_p (L2 := [some (.ref 115), some (.int a1), some (.int a2), o3]) (S2 := [.int a1, .int a2]) (pc2 := 204) op207_203 rfl rfl ?_
      refine ry_ic_ne (tgt := 214) (pc2 := 207) op207_204 (by decide) (by decide) rfl (fun b61 => ?_) (fun b61 => ?_)
      · have h := (if_pos b61).symm.trans h
        refine rx_p (L2 := [some (.ref 115), some (.int a1), some (.int a2), o3]) (S2 := [.ref 115]) (pc2 := 208) op207_207 rfl rfl ?_
        refine rx_gf (v := .ref 145) (pc2 := 211) op207_208 sp_115 rfl rfl rfl ?_
        refine rx_p (L2 := [some (.ref 115), some (.int a1), some (.int a2), o3]) (S2 := [.int a1, .ref 145]) (pc2 := 212) op207_211 rfl rfl ?_
        obtain ⟨k62, h⟩ := rq_chk h
        refine rx_ia (pc2 := 213) op207_212 (rn_shlt sp_145) sp_145 k62 rfl rfl ?_
        cases h
        obtain ⟨rfl, rfl⟩ := hl _ _ rfl
        exact ry_ri op207_213 ms_207 rfl
      · have h := (if_neg b61).symm.trans h
        refine rx_p (L2 := [some (.ref 115), some (.int a1), some (.int a2), o3]) (S2 := [.ref 115]) (pc2 := 215) op207_214 rfl rfl ?_
        refine rx_gf (v := .ref 145) (pc2 := 218) op207_215 sp_115 rfl rfl rfl ?_
        refine rx_p (L2 := [some (.ref 115), some (.int a1), some (.int a2), o3]) (S2 := [.int a2, .ref 145]) (pc2 := 219) op207_218 rfl rfl ?_
        obtain ⟨k63, h⟩ := rq_chk h
        refine rx_ia (pc2 := 220) op207_219 (rn_shlt sp_145) sp_145 k63 rfl rfl ?_
        obtain ⟨x64, ex64, h⟩ := rq_bv h
        refine rx_s (v := x64) (L2 := [some (.ref 115), some (.int a1), some (.int a2), some (.int x64)]) (pc2 := 221) op207_220 ex64 rfl rfl ?_
        obtain ⟨x65, ex65, h⟩ := rq_bv h
        refine rx_inc (w := (-1)) (v := x65) (L2 := [some (.ref 115), some (.int a1), some (.int x65), some (.int x64)]) (pc2 := 224) op207_221 rfl (by decide) ex65 rfl rfl ?_
        refine rx_p (L2 := [some (.ref 115), some (.int a1), some (.int x65), some (.int x64)]) (S2 := [.ref 115]) (pc2 := 225) op207_224 rfl rfl ?_
        refine rx_p (L2 := [some (.ref 115), some (.int a1), some (.int x65), some (.int x64)]) (S2 := [.ref 115, .ref 115]) (pc2 := 226) op207_225 rfl rfl ?_
        refine rx_gf (v := .ref 142) (pc2 := 229) op207_226 sp_115 rfl rfl rfl ?_
        refine rx_p (L2 := [some (.ref 115), some (.int a1), some (.int x65), some (.int x64)]) (S2 := [.ref 115, .ref 142, .ref 115]) (pc2 := 230) op207_229 rfl rfl ?_
        refine rx_gf (v := .ref 116) (pc2 := 233) op207_230 sp_115 rfl rfl rfl ?_
        refine rx_bp (v := 88) (pc2 := 235) op207_233 (by decide) rfl ?_
        refine rx_ia (j := 88) (pc2 := 236) op207_235 (rn_shlt sp_116) sp_116 (by decide) (by decide) rfl ?_
        refine rx_p (L2 := [some (.ref 115), some (.int a1), some (.int x65), some (.int x64)]) (S2 := [.int x65, .int (m.1 116 88), .ref 142, .ref 115]) (pc2 := 237) op207_236 rfl rfl ?_
        obtain ⟨m66, f67, h⟩ := rq_bind h
        try dsimp only at h
        refine ry_iv (p := 115) (vs := [.ref 142, .int (m.1 116 88), .int x65]) (T := []) (pc2 := 240) op207_237 ms_160 (by decide) rfl rfl (Nat.le_of_ble_eq_true rfl) (Nat.le_of_ble_eq_true rfl) sp_115 (mo_findLeaders_ok xs (by omega) sr_142 f67) rfl ?_
        show rn_R _ _ _ _ _ [] _ _ _
        refine rx_p (L2 := [some (.ref 115), some (.int a1), some (.int x65), some (.int x64)]) (S2 := [.ref 115]) (pc2 := 241) op207_240 rfl rfl ?_
        refine rx_gf (v := .ref 143) (pc2 := 244) op207_241 sp_115 rfl rfl rfl ?_
        refine rx_p (L2 := [some (.ref 115), some (.int a1), some (.int x65), some (.int x64)]) (S2 := [.ref 115, .ref 143]) (pc2 := 245) op207_244 rfl rfl ?_
        refine rx_p (L2 := [some (.ref 115), some (.int a1), some (.int x65), some (.int x64)]) (S2 := [.int x65, .ref 115, .ref 143]) (pc2 := 246) op207_245 rfl rfl ?_
        obtain ⟨⟨r69, m68⟩, f70, h⟩ := rq_bind h
        try dsimp only at h
        refine ry_iv (p := 115) (vs := [.int x65]) (T := [.ref 143]) (pc2 := 249) op207_246 ms_200 (by decide) rfl rfl (Nat.le_of_ble_eq_true rfl) (Nat.le_of_ble_eq_true rfl) sp_115 (mo_playerAt_ok xs (by omega)  f70) rfl ?_
        show rn_R _ _ _ _ _ [.int r69, .ref 143] _ _ _
        refine rx_p (L2 := [some (.ref 115), some (.int a1), some (.int x65), some (.int x64)]) (S2 := [.int r69, .ref 143, .int r69, .ref 143]) (pc2 := 250) op207_249 rfl rfl ?_
        obtain ⟨k71, h⟩ := rq_chk h
        refine rx_ia (pc2 := 251) op207_250 (rn_shlt sp_143) sp_143 k71 rfl rfl ?_
        refine rx_ic (v := 1) (pc2 := 252) op207_251 (by decide) rfl ?_
        refine rx_p (L2 := [some (.ref 115), some (.int a1), some (.int x65), some (.int x64)]) (S2 := [.ref 115, .int 1, .int (m68.1 143 r69.toNatClampNeg), .int r69, .ref 143]) (pc2 := 253) op207_252 rfl rfl ?_
        refine rx_gf (v := .ref 142) (pc2 := 256) op207_253 sp_115 rfl rfl rfl ?_
        refine rx_p (L2 := [some (.ref 115), some (.int a1), some (.int x65), some (.int x64)]) (S2 := [.int x65, .ref 142, .int 1, .int (m68.1 143 r69.toNatClampNeg), .int r69, .ref 143]) (pc2 := 257) op207_256 rfl rfl ?_
        obtain ⟨k72, h⟩ := rq_chk h
        refine rx_ia (pc2 := 258) op207_257 (rn_shlt sp_142) sp_142 k72 rfl rfl ?_
        refine rx_p (L2 := [some (.ref 115), some (.int a1), some (.int x65), some (.int x64)]) (S2 := [.int ((1 : Int32) <<< ((m68.1 142 x65.toNatClampNeg) &&& 31)), .int (m68.1 143 r69.toNatClampNeg), .int r69, .ref 143]) (pc2 := 259) op207_258 rfl rfl ?_
        refine rx_p (L2 := [some (.ref 115), some (.int a1), some (.int x65), some (.int x64)]) (S2 := [.int ((m68.1 143 r69.toNatClampNeg) ||| ((1 : Int32) <<< ((m68.1 142 x65.toNatClampNeg) &&& 31))), .int r69, .ref 143]) (pc2 := 260) op207_259 rfl rfl ?_
        obtain ⟨k74, h⟩ := rq_chk h
        obtain ⟨m73, em73, h⟩ := rq_bv h
        refine rx_is (m2 := m73) (pc2 := 261) op207_260 sp_143 k74 rfl em73 rfl ?_
        refine rx_p (L2 := [some (.ref 115), some (.int a1), some (.int x65), some (.int x64)]) (S2 := [.ref 115]) (pc2 := 262) op207_261 rfl rfl ?_
        refine rx_p (L2 := [some (.ref 115), some (.int a1), some (.int x65), some (.int x64)]) (S2 := [.int x65, .ref 115]) (pc2 := 263) op207_262 rfl rfl ?_
        refine rx_p (L2 := [some (.ref 115), some (.int a1), some (.int x65), some (.int x64)]) (S2 := [.int x64, .int x65, .ref 115]) (pc2 := 264) op207_263 rfl rfl ?_
        obtain ⟨m75, f76, h⟩ := rq_bind h
        try dsimp only at h
        refine ry_iv (p := 115) (vs := [.int x65, .int x64]) (T := []) (pc2 := 267) op207_264 ms_209 (by decide) rfl rfl (Nat.le_of_ble_eq_true rfl) (Nat.le_of_ble_eq_true rfl) sp_115 (mo_takeValue_ok xs (by omega)  f76) rfl ?_
        show rn_R _ _ _ _ _ [] _ _ _
        refine ry_go (tgt := 80) op207_267 (by decide) (by decide) ?_
        exact ih _ _ _ h
    · have h := (if_neg b28).symm.trans h
      refine rx_ic (v := 0) (pc2 := 90) op207_89 (by decide) rfl ?_
      refine rx_s (L2 := [some (.ref 115), some (.int a1), some (.int a2), some (.int 0)]) (pc2 := 91) op207_90 rfl rfl rfl ?_
      obtain ⟨wf121, f121, h⟩ := rq_bind h
      refine mo_bestFrom_l91_ok xs hd (fun x78 m77 eq => ?_) _ _ _  f121
      subst eq
      try dsimp only at h
      intro _
      refine rx_p (L2 := [some (.ref 115), some (.int a1), some (.int a2), some (.int x78)]) (S2 := [.ref 115]) (pc2 := 111) op207_110 rfl rfl ?_
      refine rx_gf (v := .ref 144) (pc2 := 114) op207_111 sp_115 rfl rfl rfl ?_
      refine rx_p (L2 := [some (.ref 115), some (.int a1), some (.int a2), some (.int x78)]) (S2 := [.int a2, .ref 144]) (pc2 := 115) op207_114 rfl rfl ?_
      refine rx_p (L2 := [some (.ref 115), some (.int a1), some (.int a2), some (.int x78)]) (S2 := [.int a2, .ref 144, .int a2, .ref 144]) (pc2 := 116) op207_115 rfl rfl ?_
      obtain ⟨k79, h⟩ := rq_chk h
      refine rx_ia (pc2 := 117) op207_116 (rn_shlt sp_144) sp_144 k79 rfl rfl ?_
      refine rx_ic (v := 1) (pc2 := 118) op207_117 (by decide) rfl ?_
      refine rx_p (L2 := [some (.ref 115), some (.int a1), some (.int a2), some (.int x78)]) (S2 := [.int x78, .int 1, .int (m77.1 144 a2.toNatClampNeg), .int a2, .ref 144]) (pc2 := 119) op207_118 rfl rfl ?_
      refine rx_p (L2 := [some (.ref 115), some (.int a1), some (.int a2), some (.int x78)]) (S2 := [.int ((1 : Int32) <<< (x78 &&& 31)), .int (m77.1 144 a2.toNatClampNeg), .int a2, .ref 144]) (pc2 := 120) op207_119 rfl rfl ?_
      refine rx_ic (v := (-1)) (pc2 := 121) op207_120 (by decide) rfl ?_
      refine rx_p (L2 := [some (.ref 115), some (.int a1), some (.int a2), some (.int x78)]) (S2 := [.int (((1 : Int32) <<< (x78 &&& 31)) ^^^ (-1)), .int (m77.1 144 a2.toNatClampNeg), .int a2, .ref 144]) (pc2 := 122) op207_121 rfl rfl ?_
      refine rx_p (L2 := [some (.ref 115), some (.int a1), some (.int a2), some (.int x78)]) (S2 := [.int ((m77.1 144 a2.toNatClampNeg) &&& (((1 : Int32) <<< (x78 &&& 31)) ^^^ (-1))), .int a2, .ref 144]) (pc2 := 123) op207_122 rfl rfl ?_
      obtain ⟨k81, h⟩ := rq_chk h
      obtain ⟨m80, em80, h⟩ := rq_bv h
      refine rx_is (m2 := m80) (pc2 := 124) op207_123 sp_144 k81 rfl em80 rfl ?_
      refine rx_p (L2 := [some (.ref 115), some (.int a1), some (.int a2), some (.int x78)]) (S2 := [.ref 115]) (pc2 := 125) op207_124 rfl rfl ?_
      refine rx_gf (v := .ref 142) (pc2 := 128) op207_125 sp_115 rfl rfl rfl ?_
      refine rx_p (L2 := [some (.ref 115), some (.int a1), some (.int a2), some (.int x78)]) (S2 := [.int a2, .ref 142]) (pc2 := 129) op207_128 rfl rfl ?_
      refine rx_p (L2 := [some (.ref 115), some (.int a1), some (.int a2), some (.int x78)]) (S2 := [.int x78, .int a2, .ref 142]) (pc2 := 130) op207_129 rfl rfl ?_
      obtain ⟨k83, h⟩ := rq_chk h
      obtain ⟨m82, em82, h⟩ := rq_bv h
      refine rx_is (m2 := m82) (pc2 := 131) op207_130 sp_142 k83 rfl em82 rfl ?_
      refine rx_p (L2 := [some (.ref 115), some (.int a1), some (.int a2), some (.int x78)]) (S2 := [.ref 115]) (pc2 := 132) op207_131 rfl rfl ?_
      refine rx_gf (v := .ref 143) (pc2 := 135) op207_132 sp_115 rfl rfl rfl ?_
      refine rx_p (L2 := [some (.ref 115), some (.int a1), some (.int a2), some (.int x78)]) (S2 := [.ref 115, .ref 143]) (pc2 := 136) op207_135 rfl rfl ?_
      refine rx_p (L2 := [some (.ref 115), some (.int a1), some (.int a2), some (.int x78)]) (S2 := [.int a2, .ref 115, .ref 143]) (pc2 := 137) op207_136 rfl rfl ?_
      obtain ⟨⟨r85, m84⟩, f86, h⟩ := rq_bind h
      try dsimp only at h
      refine ry_iv (p := 115) (vs := [.int a2]) (T := [.ref 143]) (pc2 := 140) op207_137 ms_200 (by decide) rfl rfl (Nat.le_of_ble_eq_true rfl) (Nat.le_of_ble_eq_true rfl) sp_115 (mo_playerAt_ok xs (by omega)  f86) rfl ?_
      show rn_R _ _ _ _ _ [.int r85, .ref 143] _ _ _
      refine rx_p (L2 := [some (.ref 115), some (.int a1), some (.int a2), some (.int x78)]) (S2 := [.int r85, .ref 143, .int r85, .ref 143]) (pc2 := 141) op207_140 rfl rfl ?_
      obtain ⟨k87, h⟩ := rq_chk h
      refine rx_ia (pc2 := 142) op207_141 (rn_shlt sp_143) sp_143 k87 rfl rfl ?_
      refine rx_ic (v := 1) (pc2 := 143) op207_142 (by decide) rfl ?_
      refine rx_p (L2 := [some (.ref 115), some (.int a1), some (.int a2), some (.int x78)]) (S2 := [.int x78, .int 1, .int (m84.1 143 r85.toNatClampNeg), .int r85, .ref 143]) (pc2 := 144) op207_143 rfl rfl ?_
      refine rx_p (L2 := [some (.ref 115), some (.int a1), some (.int a2), some (.int x78)]) (S2 := [.int ((1 : Int32) <<< (x78 &&& 31)), .int (m84.1 143 r85.toNatClampNeg), .int r85, .ref 143]) (pc2 := 145) op207_144 rfl rfl ?_
      refine rx_ic (v := (-1)) (pc2 := 146) op207_145 (by decide) rfl ?_
      refine rx_p (L2 := [some (.ref 115), some (.int a1), some (.int a2), some (.int x78)]) (S2 := [.int (((1 : Int32) <<< (x78 &&& 31)) ^^^ (-1)), .int (m84.1 143 r85.toNatClampNeg), .int r85, .ref 143]) (pc2 := 147) op207_146 rfl rfl ?_
      refine rx_p (L2 := [some (.ref 115), some (.int a1), some (.int a2), some (.int x78)]) (S2 := [.int ((m84.1 143 r85.toNatClampNeg) &&& (((1 : Int32) <<< (x78 &&& 31)) ^^^ (-1))), .int r85, .ref 143]) (pc2 := 148) op207_147 rfl rfl ?_
      obtain ⟨k89, h⟩ := rq_chk h
      obtain ⟨m88, em88, h⟩ := rq_bv h
      refine rx_is (m2 := m88) (pc2 := 149) op207_148 sp_143 k89 rfl em88 rfl ?_
      obtain ⟨x90, ex90, h⟩ := rq_bv h
      refine rx_inc (w := 1) (v := x90) (L2 := [some (.ref 115), some (.int a1), some (.int x90), some (.int x78)]) (pc2 := 152) op207_149 rfl (by decide) ex90 rfl rfl ?_
      refine rx_p (L2 := [some (.ref 115), some (.int a1), some (.int x90), some (.int x78)]) (S2 := [.int x90]) (pc2 := 153) op207_152 rfl rfl ?_
      refine rx_p (L2 := [some (.ref 115), some (.int a1), some (.int x90), some (.int x78)]) (S2 := [.ref 115, .int x90]) (pc2 := 154) op207_153 rfl rfl ?_
      obtain ⟨⟨r92, m91⟩, f93, h⟩ := rq_bind h
      try dsimp only at h
      refine ry_iv (p := 115) (vs := []) (T := [.int x90]) (pc2 := 157) op207_154 ms_155 (by decide) rfl rfl (Nat.le_of_ble_eq_true rfl) (Nat.le_of_ble_eq_true rfl) sp_115 (mo_size_ok xs (by omega)  f93) rfl ?_
      show rn_R _ _ _ _ _ [.int r92, .int x90] _ _ _
      refine ry_ic_ge (tgt := 168) (pc2 := 160) op207_157 (by decide) (by decide) rfl (fun b94 => ?_) (fun b94 => ?_)
      · have h := (if_pos b94).symm.trans h
        refine rx_p (L2 := [some (.ref 115), some (.int a1), some (.int x90), some (.int x78)]) (S2 := [.ref 115]) (pc2 := 161) op207_160 rfl rfl ?_
        refine rx_p (L2 := [some (.ref 115), some (.int a1), some (.int x90), some (.int x78)]) (S2 := [.int x90, .ref 115]) (pc2 := 162) op207_161 rfl rfl ?_
        obtain ⟨m95, f96, h⟩ := rq_bind h
        try dsimp only at h
        refine ry_iv (p := 115) (vs := [.int x90]) (T := []) (pc2 := 165) op207_162 ms_208 (by decide) rfl rfl (Nat.le_of_ble_eq_true rfl) (Nat.le_of_ble_eq_true rfl) sp_115 (mo_comeTo_ok xs (by omega)  f96) rfl ?_
        show rn_R _ _ _ _ _ [] _ _ _
        refine ry_go (tgt := 80) op207_165 (by decide) (by decide) ?_
        exact ih _ _ _ h
      · have h := (if_neg b94).symm.trans h
        refine rx_p (L2 := [some (.ref 115), some (.int a1), some (.int x90), some (.int x78)]) (S2 := [.ref 115]) (pc2 := 169) op207_168 rfl rfl ?_
        refine rx_p (L2 := [some (.ref 115), some (.int a1), some (.int x90), some (.int x78)]) (S2 := [.ref 115, .ref 115]) (pc2 := 170) op207_169 rfl rfl ?_
        refine rx_gf (v := .ref 142) (pc2 := 173) op207_170 sp_115 rfl rfl rfl ?_
        refine rx_p (L2 := [some (.ref 115), some (.int a1), some (.int x90), some (.int x78)]) (S2 := [.ref 115, .ref 142, .ref 115]) (pc2 := 174) op207_173 rfl rfl ?_
        refine rx_gf (v := .ref 116) (pc2 := 177) op207_174 sp_115 rfl rfl rfl ?_
        refine rx_bp (v := 88) (pc2 := 179) op207_177 (by decide) rfl ?_
        refine rx_ia (j := 88) (pc2 := 180) op207_179 (rn_shlt sp_116) sp_116 (by decide) (by decide) rfl ?_
        refine rx_p (L2 := [some (.ref 115), some (.int a1), some (.int x90), some (.int x78)]) (S2 := [.int x90, .int (m91.1 116 88), .ref 142, .ref 115]) (pc2 := 181) op207_180 rfl rfl ?_
        obtain ⟨m97, f98, h⟩ := rq_bind h
        try dsimp only at h
        refine ry_iv (p := 115) (vs := [.ref 142, .int (m91.1 116 88), .int x90]) (T := []) (pc2 := 184) op207_181 ms_160 (by decide) rfl rfl (Nat.le_of_ble_eq_true rfl) (Nat.le_of_ble_eq_true rfl) sp_115 (mo_findLeaders_ok xs (by omega) sr_142 f98) rfl ?_
        show rn_R _ _ _ _ _ [] _ _ _
        refine rx_p (L2 := [some (.ref 115), some (.int a1), some (.int x90), some (.int x78)]) (S2 := [.ref 115]) (pc2 := 185) op207_184 rfl rfl ?_
        refine rx_gf (v := .ref 145) (pc2 := 188) op207_185 sp_115 rfl rfl rfl ?_
        refine rx_p (L2 := [some (.ref 115), some (.int a1), some (.int x90), some (.int x78)]) (S2 := [.int x90, .ref 145]) (pc2 := 189) op207_188 rfl rfl ?_
        refine rx_p (L2 := [some (.ref 115), some (.int a1), some (.int x90), some (.int x78)]) (S2 := [.ref 115, .int x90, .ref 145]) (pc2 := 190) op207_189 rfl rfl ?_
        refine rx_p (L2 := [some (.ref 115), some (.int a1), some (.int x90), some (.int x78)]) (S2 := [.int a1, .ref 115, .int x90, .ref 145]) (pc2 := 191) op207_190 rfl rfl ?_
        refine rx_p (L2 := [some (.ref 115), some (.int a1), some (.int x90), some (.int x78)]) (S2 := [.ref 115, .int a1, .ref 115, .int x90, .ref 145]) (pc2 := 192) op207_191 rfl rfl ?_
        refine rx_gf (v := .ref 116) (pc2 := 195) op207_192 sp_115 rfl rfl rfl ?_
        refine rx_ic (v := 1) (pc2 := 196) op207_195 (by decide) rfl ?_
        refine rx_ia (j := 1) (pc2 := 197) op207_196 (rn_shlt sp_116) sp_116 (by decide) (by decide) rfl ?_
        obtain ⟨k99, h⟩ := rq_chk h
        refine rx_div (v := a1 / (m97.1 116 1)) (pc2 := 198) op207_197 k99 rfl rfl ?_
        obtain ⟨⟨r101, m100⟩, f102, h⟩ := rq_bind h
        try dsimp only at h
        refine ry_iv (p := 115) (vs := [.int (a1 / (m97.1 116 1))]) (T := [.int x90, .ref 145]) (pc2 := 201) op207_198 ms_163 (by decide) rfl rfl (Nat.le_of_ble_eq_true rfl) (Nat.le_of_ble_eq_true rfl) sp_115 (mo_sideWins_ok xs (by omega)  f102) rfl ?_
        show rn_R _ _ _ _ _ [.int r101, .int x90, .ref 145] _ _ _
        obtain ⟨k104, h⟩ := rq_chk h
        obtain ⟨m103, em103, h⟩ := rq_bv h
        refine rx_is (m2 := m103) (pc2 := 202) op207_201 sp_145 k104 rfl em103 rfl ?_
        refine rx_p (L2 := [some (.ref 115), some (.int a1), some (.int x90), some (.int x78)]) (S2 := [.int x90]) (pc2 := 203) op207_202 rfl rfl ?_
        refine rx_p (L2 := [some (.ref 115), some (.int a1), some (.int x90), some (.int x78)]) (S2 := [.int a1, .int x90]) (pc2 := 204) op207_203 rfl rfl ?_
        refine ry_ic_ne (tgt := 214) (pc2 := 207) op207_204 (by decide) (by decide) rfl (fun b105 => ?_) (fun b105 => ?_)
        · have h := (if_pos b105).symm.trans h
          refine rx_p (L2 := [some (.ref 115), some (.int a1), some (.int x90), some (.int x78)]) (S2 := [.ref 115]) (pc2 := 208) op207_207 rfl rfl ?_
          refine rx_gf (v := .ref 145) (pc2 := 211) op207_208 sp_115 rfl rfl rfl ?_
          refine rx_p (L2 := [some (.ref 115), some (.int a1), some (.int x90), some (.int x78)]) (S2 := [.int a1, .ref 145]) (pc2 := 212) op207_211 rfl rfl ?_
          obtain ⟨k106, h⟩ := rq_chk h
          refine rx_ia (pc2 := 213) op207_212 (rn_shlt sp_145) sp_145 k106 rfl rfl ?_
          cases h
          obtain ⟨rfl, rfl⟩ := hl _ _ rfl
          exact ry_ri op207_213 ms_207 rfl
        · have h := (if_neg b105).symm.trans h
          refine rx_p (L2 := [some (.ref 115), some (.int a1), some (.int x90), some (.int x78)]) (S2 := [.ref 115]) (pc2 := 215) op207_214 rfl rfl ?_
          refine rx_gf (v := .ref 145) (pc2 := 218) op207_215 sp_115 rfl rfl rfl ?_
          refine rx_p (L2 := [some (.ref 115), some (.int a1), some (.int x90), some (.int x78)]) (S2 := [.int x90, .ref 145]) (pc2 := 219) op207_218 rfl rfl ?_
          obtain ⟨k107, h⟩ := rq_chk h
          refine rx_ia (pc2 := 220) op207_219 (rn_shlt sp_145) sp_145 k107 rfl rfl ?_
          obtain ⟨x108, ex108, h⟩ := rq_bv h
          refine rx_s (v := x108) (L2 := [some (.ref 115), some (.int a1), some (.int x90), some (.int x108)]) (pc2 := 221) op207_220 ex108 rfl rfl ?_
          obtain ⟨x109, ex109, h⟩ := rq_bv h
          refine rx_inc (w := (-1)) (v := x109) (L2 := [some (.ref 115), some (.int a1), some (.int x109), some (.int x108)]) (pc2 := 224) op207_221 rfl (by decide) ex109 rfl rfl ?_
          refine rx_p (L2 := [some (.ref 115), some (.int a1), some (.int x109), some (.int x108)]) (S2 := [.ref 115]) (pc2 := 225) op207_224 rfl rfl ?_
          refine rx_p (L2 := [some (.ref 115), some (.int a1), some (.int x109), some (.int x108)]) (S2 := [.ref 115, .ref 115]) (pc2 := 226) op207_225 rfl rfl ?_
          refine rx_gf (v := .ref 142) (pc2 := 229) op207_226 sp_115 rfl rfl rfl ?_
          refine rx_p (L2 := [some (.ref 115), some (.int a1), some (.int x109), some (.int x108)]) (S2 := [.ref 115, .ref 142, .ref 115]) (pc2 := 230) op207_229 rfl rfl ?_
          refine rx_gf (v := .ref 116) (pc2 := 233) op207_230 sp_115 rfl rfl rfl ?_
          refine rx_bp (v := 88) (pc2 := 235) op207_233 (by decide) rfl ?_
          refine rx_ia (j := 88) (pc2 := 236) op207_235 (rn_shlt sp_116) sp_116 (by decide) (by decide) rfl ?_
          refine rx_p (L2 := [some (.ref 115), some (.int a1), some (.int x109), some (.int x108)]) (S2 := [.int x109, .int (m103.1 116 88), .ref 142, .ref 115]) (pc2 := 237) op207_236 rfl rfl ?_
          obtain ⟨m110, f111, h⟩ := rq_bind h
          try dsimp only at h
          refine ry_iv (p := 115) (vs := [.ref 142, .int (m103.1 116 88), .int x109]) (T := []) (pc2 := 240) op207_237 ms_160 (by decide) rfl rfl (Nat.le_of_ble_eq_true rfl) (Nat.le_of_ble_eq_true rfl) sp_115 (mo_findLeaders_ok xs (by omega) sr_142 f111) rfl ?_
          show rn_R _ _ _ _ _ [] _ _ _
          refine rx_p (L2 := [some (.ref 115), some (.int a1), some (.int x109), some (.int x108)]) (S2 := [.ref 115]) (pc2 := 241) op207_240 rfl rfl ?_
          refine rx_gf (v := .ref 143) (pc2 := 244) op207_241 sp_115 rfl rfl rfl ?_
          refine rx_p (L2 := [some (.ref 115), some (.int a1), some (.int x109), some (.int x108)]) (S2 := [.ref 115, .ref 143]) (pc2 := 245) op207_244 rfl rfl ?_
          refine rx_p (L2 := [some (.ref 115), some (.int a1), some (.int x109), some (.int x108)]) (S2 := [.int x109, .ref 115, .ref 143]) (pc2 := 246) op207_245 rfl rfl ?_
          obtain ⟨⟨r113, m112⟩, f114, h⟩ := rq_bind h
          try dsimp only at h
          refine ry_iv (p := 115) (vs := [.int x109]) (T := [.ref 143]) (pc2 := 249) op207_246 ms_200 (by decide) rfl rfl (Nat.le_of_ble_eq_true rfl) (Nat.le_of_ble_eq_true rfl) sp_115 (mo_playerAt_ok xs (by omega)  f114) rfl ?_
          show rn_R _ _ _ _ _ [.int r113, .ref 143] _ _ _
          refine rx_p (L2 := [some (.ref 115), some (.int a1), some (.int x109), some (.int x108)]) (S2 := [.int r113, .ref 143, .int r113, .ref 143]) (pc2 := 250) op207_249 rfl rfl ?_
          obtain ⟨k115, h⟩ := rq_chk h
          refine rx_ia (pc2 := 251) op207_250 (rn_shlt sp_143) sp_143 k115 rfl rfl ?_
          refine rx_ic (v := 1) (pc2 := 252) op207_251 (by decide) rfl ?_
          refine rx_p (L2 := [some (.ref 115), some (.int a1), some (.int x109), some (.int x108)]) (S2 := [.ref 115, .int 1, .int (m112.1 143 r113.toNatClampNeg), .int r113, .ref 143]) (pc2 := 253) op207_252 rfl rfl ?_
          refine rx_gf (v := .ref 142) (pc2 := 256) op207_253 sp_115 rfl rfl rfl ?_
          refine rx_p (L2 := [some (.ref 115), some (.int a1), some (.int x109), some (.int x108)]) (S2 := [.int x109, .ref 142, .int 1, .int (m112.1 143 r113.toNatClampNeg), .int r113, .ref 143]) (pc2 := 257) op207_256 rfl rfl ?_
          obtain ⟨k116, h⟩ := rq_chk h
          refine rx_ia (pc2 := 258) op207_257 (rn_shlt sp_142) sp_142 k116 rfl rfl ?_
          refine rx_p (L2 := [some (.ref 115), some (.int a1), some (.int x109), some (.int x108)]) (S2 := [.int ((1 : Int32) <<< ((m112.1 142 x109.toNatClampNeg) &&& 31)), .int (m112.1 143 r113.toNatClampNeg), .int r113, .ref 143]) (pc2 := 259) op207_258 rfl rfl ?_
          refine rx_p (L2 := [some (.ref 115), some (.int a1), some (.int x109), some (.int x108)]) (S2 := [.int ((m112.1 143 r113.toNatClampNeg) ||| ((1 : Int32) <<< ((m112.1 142 x109.toNatClampNeg) &&& 31))), .int r113, .ref 143]) (pc2 := 260) op207_259 rfl rfl ?_
          obtain ⟨k118, h⟩ := rq_chk h
          obtain ⟨m117, em117, h⟩ := rq_bv h
          refine rx_is (m2 := m117) (pc2 := 261) op207_260 sp_143 k118 rfl em117 rfl ?_
          refine rx_p (L2 := [some (.ref 115), some (.int a1), some (.int x109), some (.int x108)]) (S2 := [.ref 115]) (pc2 := 262) op207_261 rfl rfl ?_
          refine rx_p (L2 := [some (.ref 115), some (.int a1), some (.int x109), some (.int x108)]) (S2 := [.int x109, .ref 115]) (pc2 := 263) op207_262 rfl rfl ?_
          refine rx_p (L2 := [some (.ref 115), some (.int a1), some (.int x109), some (.int x108)]) (S2 := [.int x108, .int x109, .ref 115]) (pc2 := 264) op207_263 rfl rfl ?_
          obtain ⟨m119, f120, h⟩ := rq_bind h
          try dsimp only at h
          refine ry_iv (p := 115) (vs := [.int x109, .int x108]) (T := []) (pc2 := 267) op207_264 ms_209 (by decide) rfl rfl (Nat.le_of_ble_eq_true rfl) (Nat.le_of_ble_eq_true rfl) sp_115 (mo_takeValue_ok xs (by omega)  f120) rfl ?_
          show rn_R _ _ _ _ _ [] _ _ _
          refine ry_go (tgt := 80) op207_267 (by decide) (by decide) ?_
          exact ih _ _ _ h
set_option maxHeartbeats 4000000 in
set_option maxRecDepth 20000 in
theorem mo_bestFrom_ok (xs : List Int32) {d : Nat} (hd : 4 ≤ d) {n : Nat} {a1 : Int32} {m mO : rn_Mem} {rO : Int32} (h : mo_bestFrom n a1 m = some (rO, mO)) : rn_R xs d 207 0 (rn_ent 4 [.ref 115, .int a1]) [] (rn_SH, m) (some (.int rO)) (rn_SH, mO) := by
  obtain ⟨d, rfl⟩ : ∃ e, d = e + 1 := ⟨d - 1, by omega⟩
  unfold mo_bestFrom at h
  show rn_R xs (d + 1) 207 0 [some (.ref 115), some (.int a1), none, none] [] (rn_SH, m) (some (.int rO)) (rn_SH, mO)
  refine rx_p (L2 := [some (.ref 115), some (.int a1), none, none]) (S2 := [.ref 115]) (pc2 := 1) op207_0 rfl rfl ?_
  obtain ⟨m1, f2, h⟩ := rq_bind h
  try dsimp only at h
  refine ry_iv (p := 115) (vs := []) (T := []) (pc2 := 4) op207_1 ms_159 (by decide) rfl rfl (Nat.le_of_ble_eq_true rfl) (Nat.le_of_ble_eq_true rfl) sp_115 (mo_takeRow_ok xs (by omega)  f2) rfl ?_
  show rn_R _ _ _ _ _ [] _ _ _
  refine rx_ic (v := 0) (pc2 := 5) op207_4 (by decide) rfl ?_
  refine rx_s (L2 := [some (.ref 115), some (.int a1), some (.int 0), none]) (pc2 := 6) op207_5 rfl rfl rfl ?_
  obtain ⟨m10, f129, h⟩ := rq_bind h
  refine mo_bestFrom_l6_ok xs hd (fun m0 eq => ?_) _ _ _ _  f129
  subst eq
  try dsimp only at h
  intro o11 o12
  refine rx_ic (v := 0) (pc2 := 39) op207_38 (by decide) rfl ?_
  refine rx_s (L2 := [some (.ref 115), some (.int a1), some (.int 0), o12]) (pc2 := 40) op207_39 rfl rfl rfl ?_
  obtain ⟨m18, f128, h⟩ := rq_bind h
  refine mo_bestFrom_l40_ok xs hd (fun m0 eq => ?_) _ _ _ _  f128
  subst eq
  try dsimp only at h
  intro o19 o20
  refine rx_p (L2 := [some (.ref 115), some (.int a1), o19, o20]) (S2 := [.int a1]) (pc2 := 64) op207_63 rfl rfl ?_
  refine rx_p (L2 := [some (.ref 115), some (.int a1), o19, o20]) (S2 := [.ref 115, .int a1]) (pc2 := 65) op207_64 rfl rfl ?_
  obtain ⟨⟨r22, m21⟩, f23, h⟩ := rq_bind h
  try dsimp only at h
  refine ry_iv (p := 115) (vs := []) (T := [.int a1]) (pc2 := 68) op207_65 ms_155 (by decide) rfl rfl (Nat.le_of_ble_eq_true rfl) (Nat.le_of_ble_eq_true rfl) sp_115 (mo_size_ok xs (by omega)  f23) rfl ?_
  show rn_R _ _ _ _ _ [.int r22, .int a1] _ _ _
  refine ry_ic_ne (tgt := 73) (pc2 := 71) op207_68 (by decide) (by decide) rfl (fun b24 => ?_) (fun b24 => ?_)
  · have h := (if_pos b24).symm.trans h
    refine rx_ic (v := 0) (pc2 := 72) op207_71 (by decide) rfl ?_
    obtain ⟨rfl, rfl⟩ := rq_ret h
    exact ry_ri op207_72 ms_207 rfl
  · have h := (if_neg b24).symm.trans h
    refine rx_p (L2 := [some (.ref 115), some (.int a1), o19, o20]) (S2 := [.int a1]) (pc2 := 74) op207_73 rfl rfl ?_
    refine rx_s (L2 := [some (.ref 115), some (.int a1), some (.int a1), o20]) (pc2 := 75) op207_74 rfl rfl rfl ?_
    refine rx_p (L2 := [some (.ref 115), some (.int a1), some (.int a1), o20]) (S2 := [.ref 115]) (pc2 := 76) op207_75 rfl rfl ?_
    refine rx_p (L2 := [some (.ref 115), some (.int a1), some (.int a1), o20]) (S2 := [.int a1, .ref 115]) (pc2 := 77) op207_76 rfl rfl ?_
    obtain ⟨m25, f26, h⟩ := rq_bind h
    try dsimp only at h
    refine ry_iv (p := 115) (vs := [.int a1]) (T := []) (pc2 := 80) op207_77 ms_208 (by decide) rfl rfl (Nat.le_of_ble_eq_true rfl) (Nat.le_of_ble_eq_true rfl) sp_115 (mo_comeTo_ok xs (by omega)  f26) rfl ?_
    show rn_R _ _ _ _ _ [] _ _ _
    obtain ⟨wf127, f127, h⟩ := rq_bind h
    refine mo_bestFrom_l80_ok xs hd (fun v0 m0 eq => ?_) _ _ _ _  f127
    subst eq
    try dsimp only at h
    cases h
    exact ⟨rfl, rfl⟩
