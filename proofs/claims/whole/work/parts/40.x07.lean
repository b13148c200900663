/-! mo_forget -/
theorem op171_0 : rn_op 171 0 = some (.aload_n 0, 1, 0, 0, 0) := by decide +kernel
theorem op171_1 : rn_op 171 1 = some (.getfield 7, 3, 11, 0, 3) := by decide +kernel
theorem op171_4 : rn_op 171 4 = some (.bipush 10, 2, 0, 0, 0) := by decide +kernel
theorem op171_6 : rn_op 171 6 = some (.iaload, 1, 0, 0, 0) := by decide +kernel
theorem op171_7 : rn_op 171 7 = some (.istore_n 1, 1, 0, 0, 0) := by decide +kernel
theorem op171_8 : rn_op 171 8 = some (.aload_n 0, 1, 0, 0, 0) := by decide +kernel
theorem op171_9 : rn_op 171 9 = some (.getfield 7, 3, 11, 0, 3) := by decide +kernel
theorem op171_12 : rn_op 171 12 = some (.bipush 10, 2, 0, 0, 0) := by decide +kernel
theorem op171_14 : rn_op 171 14 = some (.iconst 0, 1, 0, 0, 0) := by decide +kernel
theorem op171_15 : rn_op 171 15 = some (.iastore, 1, 0, 0, 0) := by decide +kernel
theorem op171_16 : rn_op 171 16 = some (.iload_n 1, 1, 0, 0, 0) := by decide +kernel
theorem op171_17 : rn_op 171 17 = some (.ireturn, 1, 0, 0, 0) := by decide +kernel
def mo_forget (n : Nat)  (m : rn_Mem) : Option (Int32 × rn_Mem) :=
  (some (m.1 116 10)).bind fun (x1 : Int32) =>
  (some (rm_i m 116 10 0)).bind fun (m2 : rn_Mem) =>
  some (x1, m2)
set_option maxHeartbeats 4000000 in
set_option maxRecDepth 20000 in
theorem mo_forget_ok (xs : List Int32) {d : Nat} (hd : 0 ≤ d) {n : Nat} {m mO : rn_Mem} {rO : Int32} (h : mo_forget n  m = some (rO, mO)) : rn_R xs d 171 0 (rn_ent 2 [.ref 115]) [] (rn_SH, m) (some (.int rO)) (rn_SH, mO) := by
  unfold mo_forget at h
  show rn_R xs d 171 0 [some (.ref 115), none] [] (rn_SH, m) (some (.int rO)) (rn_SH, mO)
  refine rx_p (L2 := [some (.ref 115), none]) (S2 := [.ref 115]) (pc2 := 1) op171_0 rfl rfl ?_
  refine rx_gf (v := .ref 116) (pc2 := 4) op171_1 sp_115 rfl rfl rfl ?_
  refine rx_bp (v := 10) (pc2 := 6) op171_4 (by decide) rfl ?_
  refine rx_ia (j := 10) (pc2 := 7) op171_6 (rn_shlt sp_116) sp_116 (by decide) (by decide) rfl ?_
  obtain ⟨x1, ex1, h⟩ := rq_bv h
  refine rx_s (v := x1) (L2 := [some (.ref 115), some (.int x1)]) (pc2 := 8) op171_7 ex1 rfl rfl ?_
  refine rx_p (L2 := [some (.ref 115), some (.int x1)]) (S2 := [.ref 115]) (pc2 := 9) op171_8 rfl rfl ?_
  refine rx_gf (v := .ref 116) (pc2 := 12) op171_9 sp_115 rfl rfl rfl ?_
  refine rx_bp (v := 10) (pc2 := 14) op171_12 (by decide) rfl ?_
  refine rx_ic (v := 0) (pc2 := 15) op171_14 (by decide) rfl ?_
  obtain ⟨m2, em2, h⟩ := rq_bv h
  refine rx_is (j := 10) (m2 := m2) (pc2 := 16) op171_15 sp_116 (by decide) (by decide) em2 rfl ?_
  refine rx_p (L2 := [some (.ref 115), some (.int x1)]) (S2 := [.int x1]) (pc2 := 17) op171_16 rfl rfl ?_
  obtain ⟨rfl, rfl⟩ := rq_ret h
  exact ry_ri op171_17 ms_171 rfl
/-! mo_askAll -/
theorem op173_0 : rn_op 173 0 = some (.aload_n 0, 1, 0, 0, 0) := by decide +kernel
theorem op173_1 : rn_op 173 1 = some (.iconst 1, 1, 0, 0, 0) := by decide +kernel
theorem op173_2 : rn_op 173 2 = some (.aload_n 0, 1, 0, 0, 0) := by decide +kernel
theorem op173_3 : rn_op 173 3 = some (.getfield 7, 3, 11, 0, 3) := by decide +kernel
theorem op173_6 : rn_op 173 6 = some (.bipush 10, 2, 0, 0, 0) := by decide +kernel
theorem op173_8 : rn_op 173 8 = some (.iaload, 1, 0, 0, 0) := by decide +kernel
theorem op173_9 : rn_op 173 9 = some (.ishl, 1, 0, 0, 0) := by decide +kernel
theorem op173_10 : rn_op 173 10 = some (.iconst 1, 1, 0, 0, 0) := by decide +kernel
theorem op173_11 : rn_op 173 11 = some (.isub, 1, 0, 0, 0) := by decide +kernel
theorem op173_12 : rn_op 173 12 = some (.putfield 197, 3, 11, 6, 0) := by decide +kernel
theorem op173_15 : rn_op 173 15 = some (.aload_n 0, 1, 0, 0, 0) := by decide +kernel
theorem op173_16 : rn_op 173 16 = some (.bipush (-4), 2, 0, 0, 0) := by decide +kernel
theorem op173_18 : rn_op 173 18 = some (.putfield 200, 3, 11, 7, 0) := by decide +kernel
theorem op173_21 : rn_op 173 21 = some (.aload_n 0, 1, 0, 0, 0) := by decide +kernel
theorem op173_22 : rn_op 173 22 = some (.aload_n 0, 1, 0, 0, 0) := by decide +kernel
theorem op173_23 : rn_op 173 23 = some (.getfield 7, 3, 11, 0, 3) := by decide +kernel
theorem op173_26 : rn_op 173 26 = some (.iconst 4, 1, 0, 0, 0) := by decide +kernel
theorem op173_27 : rn_op 173 27 = some (.iaload, 1, 0, 0, 0) := by decide +kernel
theorem op173_28 : rn_op 173 28 = some (.putfield 203, 3, 11, 8, 0) := by decide +kernel
theorem op173_31 : rn_op 173 31 = some (.aload_n 0, 1, 0, 0, 0) := by decide +kernel
theorem op173_32 : rn_op 173 32 = some (.aload_n 0, 1, 0, 0, 0) := by decide +kernel
theorem op173_33 : rn_op 173 33 = some (.getfield 7, 3, 11, 0, 3) := by decide +kernel
theorem op173_36 : rn_op 173 36 = some (.iconst 5, 1, 0, 0, 0) := by decide +kernel
theorem op173_37 : rn_op 173 37 = some (.iaload, 1, 0, 0, 0) := by decide +kernel
theorem op173_38 : rn_op 173 38 = some (.putfield 206, 3, 11, 9, 0) := by decide +kernel
theorem op173_41 : rn_op 173 41 = some (.aload_n 0, 1, 0, 0, 0) := by decide +kernel
theorem op173_42 : rn_op 173 42 = some (.aload_n 0, 1, 0, 0, 0) := by decide +kernel
theorem op173_43 : rn_op 173 43 = some (.getfield 7, 3, 11, 0, 3) := by decide +kernel
theorem op173_46 : rn_op 173 46 = some (.bipush 6, 2, 0, 0, 0) := by decide +kernel
theorem op173_48 : rn_op 173 48 = some (.iaload, 1, 0, 0, 0) := by decide +kernel
theorem op173_49 : rn_op 173 49 = some (.putfield 209, 3, 11, 10, 0) := by decide +kernel
theorem op173_52 : rn_op 173 52 = some (.aload_n 0, 1, 0, 0, 0) := by decide +kernel
theorem op173_53 : rn_op 173 53 = some (.iconst 0, 1, 0, 0, 0) := by decide +kernel
theorem op173_54 : rn_op 173 54 = some (.putfield 212, 3, 11, 11, 2) := by decide +kernel
theorem op173_57 : rn_op 173 57 = some (.aload_n 0, 1, 0, 0, 0) := by decide +kernel
theorem op173_58 : rn_op 173 58 = some (.bipush (-4), 2, 0, 0, 0) := by decide +kernel
theorem op173_60 : rn_op 173 60 = some (.putfield 216, 3, 11, 12, 0) := by decide +kernel
theorem op173_63 : rn_op 173 63 = some (.aload_n 0, 1, 0, 0, 0) := by decide +kernel
theorem op173_64 : rn_op 173 64 = some (.iconst 0, 1, 0, 0, 0) := by decide +kernel
theorem op173_65 : rn_op 173 65 = some (.putfield 219, 3, 11, 13, 2) := by decide +kernel
theorem op173_68 : rn_op 173 68 = some (.return_, 1, 0, 0, 0) := by decide +kernel
def mo_askAll (n : Nat)  (m : rn_Mem) : Option (rn_Mem) :=
  (some (rm_i m 115 6 (((1 : Int32) <<< ((m.1 116 10) &&& 31)) - 1))).bind fun (m1 : rn_Mem) =>
  (some (rm_i m1 115 7 (-4))).bind fun (m2 : rn_Mem) =>
  (some (rm_i m2 115 8 (m2.1 116 4))).bind fun (m3 : rn_Mem) =>
  (some (rm_i m3 115 9 (m3.1 116 5))).bind fun (m4 : rn_Mem) =>
  (some (rm_i m4 115 10 (m4.1 116 6))).bind fun (m5 : rn_Mem) =>
  (some (rm_i m5 115 11 0)).bind fun (m6 : rn_Mem) =>
  (some (rm_i m6 115 12 (-4))).bind fun (m7 : rn_Mem) =>
  (some (rm_i m7 115 13 0)).bind fun (m8 : rn_Mem) =>
  some m8
set_option maxHeartbeats 4000000 in
set_option maxRecDepth 20000 in
theorem mo_askAll_ok (xs : List Int32) {d : Nat} (hd : 0 ≤ d) {n : Nat} {m mO : rn_Mem} (h : mo_askAll n  m = some mO) : rn_R xs d 173 0 (rn_ent 1 [.ref 115]) [] (rn_SH, m) none (rn_SH, mO) := by
  unfold mo_askAll at h
  show rn_R xs d 173 0 [some (.ref 115)] [] (rn_SH, m) none (rn_SH, mO)
  refine rx_p (L2 := [some (.ref 115)]) (S2 := [.ref 115]) (pc2 := 1) op173_0 rfl rfl ?_
  refine rx_ic (v := 1) (pc2 := 2) op173_1 (by decide) rfl ?_
  refine rx_p (L2 := [some (.ref 115)]) (S2 := [.ref 115, .int 1, .ref 115]) (pc2 := 3) op173_2 rfl rfl ?_
  refine rx_gf (v := .ref 116) (pc2 := 6) op173_3 sp_115 rfl rfl rfl ?_
  refine rx_bp (v := 10) (pc2 := 8) op173_6 (by decide) rfl ?_
  refine rx_ia (j := 10) (pc2 := 9) op173_8 (rn_shlt sp_116) sp_116 (by decide) (by decide) rfl ?_
  refine rx_p (L2 := [some (.ref 115)]) (S2 := [.int ((1 : Int32) <<< ((m.1 116 10) &&& 31)), .ref 115]) (pc2 := 10) op173_9 rfl rfl ?_
  refine rx_ic (v := 1) (pc2 := 11) op173_10 (by decide) rfl ?_
  refine rx_p (L2 := [some (.ref 115)]) (S2 := [.int (((1 : Int32) <<< ((m.1 116 10) &&& 31)) - 1), .ref 115]) (pc2 := 12) op173_11 rfl rfl ?_
  obtain ⟨m1, em1, h⟩ := rq_bv h
  refine rx_pf (m2 := m1) (pc2 := 15) op173_12 sp_115 rfl em1 rfl ?_
  refine rx_p (L2 := [some (.ref 115)]) (S2 := [.ref 115]) (pc2 := 16) op173_15 rfl rfl ?_
  refine rx_bp (v := (-4)) (pc2 := 18) op173_16 (by decide) rfl ?_
  obtain ⟨m2, em2, h⟩ := rq_bv h
  refine rx_pf (m2 := m2) (pc2 := 21) op173_18 sp_115 rfl em2 rfl ?_
  refine rx_p (L2 := [some (.ref 115)]) (S2 := [.ref 115]) (pc2 := 22) op173_21 rfl rfl ?_
  refine rx_p (L2 := [some (.ref 115)]) (S2 := [.ref 115, .ref 115]) (pc2 := 23) op173_22 rfl rfl ?_
  refine rx_gf (v := .ref 116) (pc2 := 26) op173_23 sp_115 rfl rfl rfl ?_
  refine rx_ic (v := 4) (pc2 := 27) op173_26 (by decide) rfl ?_
  refine rx_ia (j := 4) (pc2 := 28) op173_27 (rn_shlt sp_116) sp_116 (by decide) (by decide) rfl ?_
  obtain ⟨m3, em3, h⟩ := rq_bv h
  refine rx_pf (m2 := m3) (pc2 := 31) op173_28 sp_115 rfl em3 rfl ?_
  refine rx_p (L2 := [some (.ref 115)]) (S2 := [.ref 115]) (pc2 := 32) op173_31 rfl rfl ?_
  refine rx_p (L2 := [some (.ref 115)]) (S2 := [.ref 115, .ref 115]) (pc2 := 33) op173_32 rfl rfl ?_
  refine rx_gf (v := .ref 116) (pc2 := 36) op173_33 sp_115 rfl rfl rfl ?_
  refine rx_ic (v := 5) (pc2 := 37) op173_36 (by decide) rfl ?_
  refine rx_ia (j := 5) (pc2 := 38) op173_37 (rn_shlt sp_116) sp_116 (by decide) (by decide) rfl ?_
  obtain ⟨m4, em4, h⟩ := rq_bv h
  refine rx_pf (m2 := m4) (pc2 := 41) op173_38 sp_115 rfl em4 rfl ?_
  refine rx_p (L2 := [some (.ref 115)]) (S2 := [.ref 115]) (pc2 := 42) op173_41 rfl rfl ?_
  refine rx_p (L2 := [some (.ref 115)]) (S2 := [.ref 115, .ref 115]) (pc2 := 43) op173_42 rfl rfl ?_
  refine rx_gf (v := .ref 116) (pc2 := 46) op173_43 sp_115 rfl rfl rfl ?_
  refine rx_bp (v := 6) (pc2 := 48) op173_46 (by decide) rfl ?_
  refine rx_ia (j := 6) (pc2 := 49) op173_48 (rn_shlt sp_116) sp_116 (by decide) (by decide) rfl ?_
  obtain ⟨m5, em5, h⟩ := rq_bv h
  refine rx_pf (m2 := m5) (pc2 := 52) op173_49 sp_115 rfl em5 rfl ?_
  refine rx_p (L2 := [some (.ref 115)]) (S2 := [.ref 115]) (pc2 := 53) op173_52 rfl rfl ?_
  refine rx_ic (v := 0) (pc2 := 54) op173_53 (by decide) rfl ?_
  obtain ⟨m6, em6, h⟩ := rq_bv h
  refine rx_pz (m2 := m6) (pc2 := 57) op173_54 sp_115 rfl (by decide) em6 rfl ?_
  refine rx_p (L2 := [some (.ref 115)]) (S2 := [.ref 115]) (pc2 := 58) op173_57 rfl rfl ?_
  refine rx_bp (v := (-4)) (pc2 := 60) op173_58 (by decide) rfl ?_
  obtain ⟨m7, em7, h⟩ := rq_bv h
  refine rx_pf (m2 := m7) (pc2 := 63) op173_60 sp_115 rfl em7 rfl ?_
  refine rx_p (L2 := [some (.ref 115)]) (S2 := [.ref 115]) (pc2 := 64) op173_63 rfl rfl ?_
  refine rx_ic (v := 0) (pc2 := 65) op173_64 (by decide) rfl ?_
  obtain ⟨m8, em8, h⟩ := rq_bv h
  refine rx_pz (m2 := m8) (pc2 := 68) op173_65 sp_115 rfl (by decide) em8 rfl ?_
  obtain rfl := Option.some.inj h
  exact ry_rv op173_68 ms_173 rfl
/-! mo_ordersOf -/
theorem op175_0 : rn_op 175 0 = some (.iconst 1, 1, 0, 0, 0) := by decide +kernel
theorem op175_1 : rn_op 175 1 = some (.istore_n 1, 1, 0, 0, 0) := by decide +kernel
theorem op175_2 : rn_op 175 2 = some (.iconst 2, 1, 0, 0, 0) := by decide +kernel
theorem op175_3 : rn_op 175 3 = some (.istore_n 2, 1, 0, 0, 0) := by decide +kernel
theorem op175_4 : rn_op 175 4 = some (.iload_n 2, 1, 0, 0, 0) := by decide +kernel
theorem op175_5 : rn_op 175 5 = some (.iload_n 0, 1, 0, 0, 0) := by decide +kernel
theorem op175_6 : rn_op 175 6 = some (.if_icmp .gt 13, 3, 0, 0, 0) := by decide +kernel
theorem op175_9 : rn_op 175 9 = some (.iload_n 1, 1, 0, 0, 0) := by decide +kernel
theorem op175_10 : rn_op 175 10 = some (.iload_n 2, 1, 0, 0, 0) := by decide +kernel
theorem op175_11 : rn_op 175 11 = some (.imul, 1, 0, 0, 0) := by decide +kernel
theorem op175_12 : rn_op 175 12 = some (.istore_n 1, 1, 0, 0, 0) := by decide +kernel
theorem op175_13 : rn_op 175 13 = some (.iinc 2 1, 3, 0, 0, 0) := by decide +kernel
theorem op175_16 : rn_op 175 16 = some (.goto (-12), 3, 0, 0, 0) := by decide +kernel
theorem op175_19 : rn_op 175 19 = some (.iload_n 1, 1, 0, 0, 0) := by decide +kernel
theorem op175_20 : rn_op 175 20 = some (.ireturn, 1, 0, 0, 0) := by decide +kernel
def mo_ordersOf_l4 (a0 : Int32) : Nat → Int32 → Int32 → rn_Mem → Option (Int32 × rn_Mem)
  | 0, _, _, _ => none
  | n + 1, a1, a2, m =>
    if a0 < a2 then
      some (a1, m)
    else
      (some (a1 * a2)).bind fun (x2 : Int32) =>
      (some (a2 + 1)).bind fun (x3 : Int32) =>
      mo_ordersOf_l4 a0 n x2 x3 m
def mo_ordersOf (n : Nat) (a0 : Int32) (m : rn_Mem) : Option (Int32 × rn_Mem) :=
  (mo_ordersOf_l4 a0 n 1 2 m).bind fun (x6, m4) =>
  some (x6, m4)
set_option maxHeartbeats 4000000 in
set_option maxRecDepth 20000 in
theorem mo_ordersOf_l4_ok (xs : List Int32) {d : Nat} {a0 : Int32} {r : Option Value} {τ : rn_H} {out : Int32 × rn_Mem} (hr : ∀ (z1 : Int32) (mO : rn_Mem), out = (z1, mO) → ∀ (o0 o2 : Option Value), rn_R xs d 175 19 [o0, some (.int z1), o2] [] (rn_SH, mO) r τ) : ∀ (n : Nat) (a1 : Int32) (a2 : Int32) (m : rn_Mem), mo_ordersOf_l4 a0 n a1 a2 m = some out → rn_R xs d 175 4 [some (.int a0), some (.int a1), some (.int a2)] [] (rn_SH, m) r τ := by
  intro n
  induction n with
  | zero =>
    intro _ _ _ h
    cases h
  | succ n ih =>
    intro a1 a2 m h
    unfold mo_ordersOf_l4 at h
    try dsimp only at h
    refine rx_p (L2 := [some (.int a0), some (.int a1), some (.int a2)]) (S2 := [.int a2]) (pc2 := 5) op175_4 rfl rfl ?_
    refine rx_p (L2 := [some (.int a0), some (.int a1), some (.int a2)]) (S2 := [.int a0, .int a2]) (pc2 := 6) op175_5 rfl rfl ?_
    refine ry_ic_gt (tgt := 19) (pc2 := 9) op175_6 (by decide) (by decide) rfl (fun b1 => ?_) (fun b1 => ?_)
    · have h := (if_pos b1).symm.trans h
      cases h
      exact hr _ _ rfl _ _
    · have h := (if_neg b1).symm.trans h
      refine rx_p (L2 := [some (.int a0), some (.int a1), some (.int a2)]) (S2 := [.int a1]) (pc2 := 10) op175_9 rfl rfl ?_
      refine rx_p (L2 := [some (.int a0), some (.int a1), some (.int a2)]) (S2 := [.int a2, .int a1]) (pc2 := 11) op175_10 rfl rfl ?_
      refine rx_p (L2 := [some (.int a0), some (.int a1), some (.int a2)]) (S2 := [.int (a1 * a2)]) (pc2 := 12) op175_11 rfl rfl ?_
      obtain ⟨x2, ex2, h⟩ := rq_bv h
      refine rx_s (v := x2) (L2 := [some (.int a0), some (.int x2), some (.int a2)]) (pc2 := 13) op175_12 ex2 rfl rfl ?_
      obtain ⟨x3, ex3, h⟩ := rq_bv h
      refine rx_inc (w := 1) (v := x3) (L2 := [some (.int a0), some (.int x2), some (.int x3)]) (pc2 := 16) op175_13 rfl (by decide) ex3 rfl rfl ?_
      refine ry_go (tgt := 4) op175_16 (by decide) (by decide) ?_
      exact ih _ _ _ h
set_option maxHeartbeats 4000000 in
set_option maxRecDepth 20000 in
theorem mo_ordersOf_ok (xs : List Int32) {d : Nat} (hd : 0 ≤ d) {n : Nat} {a0 : Int32} {m mO : rn_Mem} {rO : Int32} (h : mo_ordersOf n a0 m = some (rO, mO)) : rn_R xs d 175 0 (rn_ent 3 [.int a0]) [] (rn_SH, m) (some (.int rO)) (rn_SH, mO) := by
  unfold mo_ordersOf at h
  show rn_R xs d 175 0 [some (.int a0), none, none] [] (rn_SH, m) (some (.int rO)) (rn_SH, mO)
  refine rx_ic (v := 1) (pc2 := 1) op175_0 (by decide) rfl ?_
  refine rx_s (L2 := [some (.int a0), some (.int 1), none]) (pc2 := 2) op175_1 rfl rfl rfl ?_
  refine rx_ic (v := 2) (pc2 := 3) op175_2 (by decide) rfl ?_
  refine rx_s (L2 := [some (.int a0), some (.int 1), some (.int 2)]) (pc2 := 4) op175_3 rfl rfl rfl ?_
  obtain ⟨wf8, f8, h⟩ := rq_bind h
  refine mo_ordersOf_l4_ok xs (fun x6 m4 eq => ?_) _ _ _ _  f8
  subst eq
  try dsimp only at h
  intro o5 o7
  refine rx_p (L2 := [o5, some (.int x6), o7]) (S2 := [.int x6]) (pc2 := 20) op175_19 rfl rfl ?_
  obtain ⟨rfl, rfl⟩ := rq_ret h
  exact ry_ri op175_20 ms_175 rfl
/-! mo_isDone -/
theorem op176_0 : rn_op 176 0 = some (.aload_n 0, 1, 0, 0, 0) := by decide +kernel
theorem op176_1 : rn_op 176 1 = some (.getfield 219, 3, 11, 13, 2) := by decide +kernel
theorem op176_4 : rn_op 176 4 = some (.ifCond .eq 16, 3, 0, 0, 0) := by decide +kernel
theorem op176_7 : rn_op 176 7 = some (.aload_n 0, 1, 0, 0, 0) := by decide +kernel
theorem op176_8 : rn_op 176 8 = some (.getfield 222, 3, 11, 14, 1) := by decide +kernel
theorem op176_11 : rn_op 176 11 = some (.lconst 0, 1, 0, 0, 0) := by decide +kernel
theorem op176_12 : rn_op 176 12 = some (.lcmp, 1, 0, 0, 0) := by decide +kernel
theorem op176_13 : rn_op 176 13 = some (.ifCond .le 7, 3, 0, 0, 0) := by decide +kernel
theorem op176_16 : rn_op 176 16 = some (.iconst 1, 1, 0, 0, 0) := by decide +kernel
theorem op176_17 : rn_op 176 17 = some (.goto 4, 3, 0, 0, 0) := by decide +kernel
theorem op176_20 : rn_op 176 20 = some (.iconst 0, 1, 0, 0, 0) := by decide +kernel
theorem op176_21 : rn_op 176 21 = some (.ireturn, 1, 0, 0, 0) := by decide +kernel
def mo_isDone (n : Nat)  (m : rn_Mem) : Option (Int32 × rn_Mem) :=
  if (m.1 115 13) = 0 then
    some (0, m)
  else
    if 0 < (lg_cmp (m.2 115 14) 0) then
      some (1, m)
    else
      some (0, m)
set_option maxHeartbeats 4000000 in
set_option maxRecDepth 20000 in
theorem mo_isDone_ok (xs : List Int32) {d : Nat} (hd : 0 ≤ d) {n : Nat} {m mO : rn_Mem} {rO : Int32} (h : mo_isDone n  m = some (rO, mO)) : rn_R xs d 176 0 (rn_ent 1 [.ref 115]) [] (rn_SH, m) (some (.int rO)) (rn_SH, mO) := by
  unfold mo_isDone at h
  show rn_R xs d 176 0 [some (.ref 115)] [] (rn_SH, m) (some (.int rO)) (rn_SH, mO)
  refine rx_p (L2 := [some (.ref 115)]) (S2 := [.ref 115]) (pc2 := 1) op176_0 rfl rfl ?_
  refine rx_gf (v := .int (m.1 115 13)) (pc2 := 4) op176_1 sp_115 rfl rfl rfl ?_
  refine ry_if_eq (tgt := 20) (pc2 := 7) op176_4 (by decide) (by decide) rfl (fun b1 => ?_) (fun b1 => ?_)
  · have h := (if_pos b1).symm.trans h
    refine rx_ic (v := 0) (pc2 := 21) op176_20 (by decide) rfl ?_
    obtain ⟨rfl, rfl⟩ := rq_ret h
    exact ry_rz (x := 0) op176_21 ms_176 rfl (by decide)
  · have h := (if_neg b1).symm.trans h
    refine rx_p (L2 := [some (.ref 115)]) (S2 := [.ref 115]) (pc2 := 8) op176_7 rfl rfl ?_
    refine rx_gf (v := .long (m.2 115 14)) (pc2 := 11) op176_8 sp_115 rfl rfl rfl ?_
    refine rx_lc (v := 0) (pc2 := 12) op176_11 (by decide) rfl ?_
    refine rx_p (L2 := [some (.ref 115)]) (S2 := [.int (lg_cmp (m.2 115 14) 0)]) (pc2 := 13) op176_12 rfl rfl ?_
    refine ry_if_le (tgt := 20) (pc2 := 16) op176_13 (by decide) (by decide) rfl (fun b2 => ?_) (fun b2 => ?_)
    · have h := (if_pos b2).symm.trans h
      refine rx_ic (v := 1) (pc2 := 17) op176_16 (by decide) rfl ?_
      refine ry_go (tgt := 21) op176_17 (by decide) (by decide) ?_
      obtain ⟨rfl, rfl⟩ := rq_ret h
      exact ry_rz (x := 1) op176_21 ms_176 rfl (by decide)
    · have h := (if_neg b2).symm.trans h
      refine rx_ic (v := 0) (pc2 := 21) op176_20 (by decide) rfl ?_
      obtain ⟨rfl, rfl⟩ := rq_ret h
      exact ry_rz (x := 0) op176_21 ms_176 rfl (by decide)
/-! mo_ordered -/
theorem op177_0 : rn_op 177 0 = some (.iload_n 1, 1, 0, 0, 0) := by decide +kernel
theorem op177_1 : rn_op 177 1 = some (.istore_n 3, 1, 0, 0, 0) := by decide +kernel
theorem op177_2 : rn_op 177 2 = some (.iconst 1, 1, 0, 0, 0) := by decide +kernel
theorem op177_3 : rn_op 177 3 = some (.iload_n 0, 1, 0, 0, 0) := by decide +kernel
theorem op177_4 : rn_op 177 4 = some (.ishl, 1, 0, 0, 0) := by decide +kernel
theorem op177_5 : rn_op 177 5 = some (.iconst 1, 1, 0, 0, 0) := by decide +kernel
theorem op177_6 : rn_op 177 6 = some (.isub, 1, 0, 0, 0) := by decide +kernel
theorem op177_7 : rn_op 177 7 = some (.istore 4, 2, 0, 0, 0) := by decide +kernel
theorem op177_9 : rn_op 177 9 = some (.iconst 0, 1, 0, 0, 0) := by decide +kernel
theorem op177_10 : rn_op 177 10 = some (.istore 5, 2, 0, 0, 0) := by decide +kernel
theorem op177_12 : rn_op 177 12 = some (.iconst 0, 1, 0, 0, 0) := by decide +kernel
theorem op177_13 : rn_op 177 13 = some (.istore 6, 2, 0, 0, 0) := by decide +kernel
theorem op177_15 : rn_op 177 15 = some (.iload 6, 2, 0, 0, 0) := by decide +kernel
theorem op177_17 : rn_op 177 17 = some (.iload_n 2, 1, 0, 0, 0) := by decide +kernel
theorem op177_18 : rn_op 177 18 = some (.if_icmp .gt 95, 3, 0, 0, 0) := by decide +kernel
theorem op177_21 : rn_op 177 21 = some (.iconst 1, 1, 0, 0, 0) := by decide +kernel
theorem op177_22 : rn_op 177 22 = some (.istore 7, 2, 0, 0, 0) := by decide +kernel
theorem op177_24 : rn_op 177 24 = some (.iconst 2, 1, 0, 0, 0) := by decide +kernel
theorem op177_25 : rn_op 177 25 = some (.istore 8, 2, 0, 0, 0) := by decide +kernel
theorem op177_27 : rn_op 177 27 = some (.iload 8, 2, 0, 0, 0) := by decide +kernel
theorem op177_29 : rn_op 177 29 = some (.iload_n 0, 1, 0, 0, 0) := by decide +kernel
theorem op177_30 : rn_op 177 30 = some (.iload 6, 2, 0, 0, 0) := by decide +kernel
theorem op177_32 : rn_op 177 32 = some (.isub, 1, 0, 0, 0) := by decide +kernel
theorem op177_33 : rn_op 177 33 = some (.if_icmp .ge 16, 3, 0, 0, 0) := by decide +kernel
theorem op177_36 : rn_op 177 36 = some (.iload 7, 2, 0, 0, 0) := by decide +kernel
theorem op177_38 : rn_op 177 38 = some (.iload 8, 2, 0, 0, 0) := by decide +kernel
theorem op177_40 : rn_op 177 40 = some (.imul, 1, 0, 0, 0) := by decide +kernel
theorem op177_41 : rn_op 177 41 = some (.istore 7, 2, 0, 0, 0) := by decide +kernel
theorem op177_43 : rn_op 177 43 = some (.iinc 8 1, 3, 0, 0, 0) := by decide +kernel
theorem op177_46 : rn_op 177 46 = some (.goto (-19), 3, 0, 0, 0) := by decide +kernel
theorem op177_49 : rn_op 177 49 = some (.iload_n 3, 1, 0, 0, 0) := by decide +kernel
theorem op177_50 : rn_op 177 50 = some (.iload 7, 2, 0, 0, 0) := by decide +kernel
theorem op177_52 : rn_op 177 52 = some (.idiv, 1, 0, 0, 0) := by decide +kernel
theorem op177_53 : rn_op 177 53 = some (.istore 8, 2, 0, 0, 0) := by decide +kernel
theorem op177_55 : rn_op 177 55 = some (.iload_n 3, 1, 0, 0, 0) := by decide +kernel
theorem op177_56 : rn_op 177 56 = some (.iload 7, 2, 0, 0, 0) := by decide +kernel
theorem op177_58 : rn_op 177 58 = some (.irem, 1, 0, 0, 0) := by decide +kernel
theorem op177_59 : rn_op 177 59 = some (.istore_n 3, 1, 0, 0, 0) := by decide +kernel
theorem op177_60 : rn_op 177 60 = some (.iconst 0, 1, 0, 0, 0) := by decide +kernel
theorem op177_61 : rn_op 177 61 = some (.istore 5, 2, 0, 0, 0) := by decide +kernel
theorem op177_63 : rn_op 177 63 = some (.iload 4, 2, 0, 0, 0) := by decide +kernel
theorem op177_65 : rn_op 177 65 = some (.iload 5, 2, 0, 0, 0) := by decide +kernel
theorem op177_67 : rn_op 177 67 = some (.ishr, 1, 0, 0, 0) := by decide +kernel
theorem op177_68 : rn_op 177 68 = some (.iconst 1, 1, 0, 0, 0) := by decide +kernel
theorem op177_69 : rn_op 177 69 = some (.iand, 1, 0, 0, 0) := by decide +kernel
theorem op177_70 : rn_op 177 70 = some (.ifCond .eq 8, 3, 0, 0, 0) := by decide +kernel
theorem op177_73 : rn_op 177 73 = some (.iload 8, 2, 0, 0, 0) := by decide +kernel
theorem op177_75 : rn_op 177 75 = some (.ifCond .le 21, 3, 0, 0, 0) := by decide +kernel
theorem op177_78 : rn_op 177 78 = some (.iload 8, 2, 0, 0, 0) := by decide +kernel
theorem op177_80 : rn_op 177 80 = some (.iload 4, 2, 0, 0, 0) := by decide +kernel
theorem op177_82 : rn_op 177 82 = some (.iload 5, 2, 0, 0, 0) := by decide +kernel
theorem op177_84 : rn_op 177 84 = some (.ishr, 1, 0, 0, 0) := by decide +kernel
theorem op177_85 : rn_op 177 85 = some (.iconst 1, 1, 0, 0, 0) := by decide +kernel
theorem op177_86 : rn_op 177 86 = some (.iand, 1, 0, 0, 0) := by decide +kernel
theorem op177_87 : rn_op 177 87 = some (.isub, 1, 0, 0, 0) := by decide +kernel
theorem op177_88 : rn_op 177 88 = some (.istore 8, 2, 0, 0, 0) := by decide +kernel
theorem op177_90 : rn_op 177 90 = some (.iinc 5 1, 3, 0, 0, 0) := by decide +kernel
theorem op177_93 : rn_op 177 93 = some (.goto (-30), 3, 0, 0, 0) := by decide +kernel
theorem op177_96 : rn_op 177 96 = some (.iload 4, 2, 0, 0, 0) := by decide +kernel
theorem op177_98 : rn_op 177 98 = some (.iconst 1, 1, 0, 0, 0) := by decide +kernel
theorem op177_99 : rn_op 177 99 = some (.iload 5, 2, 0, 0, 0) := by decide +kernel
theorem op177_101 : rn_op 177 101 = some (.ishl, 1, 0, 0, 0) := by decide +kernel
theorem op177_102 : rn_op 177 102 = some (.iconst (-1), 1, 0, 0, 0) := by decide +kernel
theorem op177_103 : rn_op 177 103 = some (.ixor, 1, 0, 0, 0) := by decide +kernel
theorem op177_104 : rn_op 177 104 = some (.iand, 1, 0, 0, 0) := by decide +kernel
theorem op177_105 : rn_op 177 105 = some (.istore 4, 2, 0, 0, 0) := by decide +kernel
theorem op177_107 : rn_op 177 107 = some (.iinc 6 1, 3, 0, 0, 0) := by decide +kernel
theorem op177_110 : rn_op 177 110 = some (.goto (-95), 3, 0, 0, 0) := by decide +kernel
theorem op177_113 : rn_op 177 113 = some (.iload 5, 2, 0, 0, 0) := by decide +kernel
theorem op177_115 : rn_op 177 115 = some (.ireturn, 1, 0, 0, 0) := by decide +kernel
def mo_ordered_l27 (a0 : Int32) (a2 : Int32) (a3 : Int32) (a4 : Int32) (a6 : Int32) : Nat → Int32 → Int32 → rn_Mem → Option (Int32 × rn_Mem)
  | 0, _, _, _ => none
  | n + 1, a7, a8, m =>
    if a8 < (a0 - a6) then
      (some (a7 * a8)).bind fun (x4 : Int32) =>
      (some (a8 + 1)).bind fun (x5 : Int32) =>
      mo_ordered_l27 a0 a2 a3 a4 a6 n x4 x5 m
    else
      some (a7, m)
def mo_ordered_l63 (a0 : Int32) (a2 : Int32) (a3 : Int32) (a4 : Int32) (a6 : Int32) : Nat → Int32 → Int32 → rn_Mem → Option (Int32 × rn_Mem)
  | 0, _, _, _ => none
  | n + 1, a5, a8, m =>
    if ((a4 >>> (a5 &&& 31)) &&& 1) = 0 then
      (some (a8 - ((a4 >>> (a5 &&& 31)) &&& 1))).bind fun (x18 : Int32) =>
      (some (a5 + 1)).bind fun (x19 : Int32) =>
      mo_ordered_l63 a0 a2 a3 a4 a6 n x19 x18 m
    else
      if 0 < a8 then
        (some (a8 - ((a4 >>> (a5 &&& 31)) &&& 1))).bind fun (x22 : Int32) =>
        (some (a5 + 1)).bind fun (x23 : Int32) =>
        mo_ordered_l63 a0 a2 a3 a4 a6 n x23 x22 m
      else
        some (a5, m)
def mo_ordered_l15 (a0 : Int32) (a2 : Int32) : Nat → Int32 → Int32 → Int32 → Int32 → rn_Mem → Option (Int32 × rn_Mem)
  | 0, _, _, _, _, _ => none
  | n + 1, a3, a4, a5, a6, m =>
    if a2 < a6 then
      some (a5, m)
    else
      (mo_ordered_l27 a0 a2 a3 a4 a6 n 1 2 m).bind fun (x9, m6) =>
      if ¬ x9 = 0 then
        (some (a3 / x9)).bind fun (x12 : Int32) =>
        if ¬ x9 = 0 then
          (some (rn_rem a3 x9)).bind fun (x14 : Int32) =>
          (mo_ordered_l63 a0 a2 x14 a4 a6 n 0 x12 m6).bind fun (x26, m24) =>
          (some (a4 &&& (((1 : Int32) <<< (x26 &&& 31)) ^^^ (-1)))).bind fun (x29 : Int32) =>
          (some (a6 + 1)).bind fun (x30 : Int32) =>
          mo_ordered_l15 a0 a2 n x14 x29 x26 x30 m24
        else none
      else none
def mo_ordered (n : Nat) (a0 : Int32) (a1 : Int32) (a2 : Int32) (m : rn_Mem) : Option (Int32 × rn_Mem) :=
  (some (((1 : Int32) <<< (a0 &&& 31)) - 1)).bind fun (x1 : Int32) =>
  (mo_ordered_l15 a0 a2 n a1 x1 0 0 m).bind fun (x39, m33) =>
  some (x39, m33)
set_option maxHeartbeats 4000000 in
set_option maxRecDepth 20000 in
theorem mo_ordered_l27_ok (xs : List Int32) {d : Nat} {a0 : Int32} {a2 : Int32} {a3 : Int32} {a4 : Int32} {a6 : Int32} {r : Option Value} {τ : rn_H} {out : Int32 × rn_Mem} (hr : ∀ (z7 : Int32) (mO : rn_Mem), out = (z7, mO) → ∀ (o1 o5 o8 : Option Value), rn_R xs d 177 49 [some (.int a0), o1, some (.int a2), some (.int a3), some (.int a4), o5, some (.int a6), some (.int z7), o8] [] (rn_SH, mO) r τ) : ∀ (n : Nat) (a7 : Int32) (a8 : Int32) (o1 o5 : Option Value) (m : rn_Mem), mo_ordered_l27 a0 a2 a3 a4 a6 n a7 a8 m = some out → rn_R xs d 177 27 [some (.int a0), o1, some (.int a2), some (.int a3), some (.int a4), o5, some (.int a6), some (.int a7), some (.int a8)] [] (rn_SH, m) r τ := by
  intro n
  induction n with
  | zero =>
    intro _ _ _ _ _ h
    cases h
  | succ n ih =>
    intro a7 a8 o1 o5 m h
    unfold mo_ordered_l27 at h
    try dsimp only at h
    refine rx_p (L2 := [some (.int a0), o1, some (.int a2), some (.int a3), some (.int a4), o5, some (.int a6), some (.int a7), some (.int a8)]) (S2 := [.int a8]) (pc2 := 29) op177_27 rfl rfl ?_
    refine rx_p (L2 := [some (.int a0), o1, some (.int a2), some (.int a3), some (.int a4), o5, some (.int a6), some (.int a7), some (.int a8)]) (S2 := [.int a0, .int a8]) (pc2 := 30) op177_29 rfl rfl ?_
    refine rx_p (L2 := [some (.int a0), o1, some (.int a2), some (.int a3), some (.int a4), o5, some (.int a6), some (.int a7), some (.int a8)]) (S2 := [.int a6, .int a0, .int a8]) (pc2 := 32) op177_30 rfl rfl ?_
    refine rx_p (L2 := [some (.int a0), o1, some (.int a2), some (.int a3), some (.int a4), o5, some (.int a6), some (.int a7), some (.int a8)]) (S2 := [.int (a0 - a6), .int a8]) (pc2 := 33) op177_32 rfl rfl ?_
    refine ry_ic_ge (tgt := 49) (pc2 := 36) op177_33 (by decide) (by decide) rfl (fun b3 => ?_) (fun b3 => ?_)
    · have h := (if_pos b3).symm.trans h
      refine rx_p (L2 := [some (.int a0), o1, some (.int a2), some (.int a3), some (.int a4), o5, some (.int a6), some (.int a7), some (.int a8)]) (S2 := [.int a7]) (pc2 := 38) op177_36 rfl rfl ?_
      refine rx_p (L2 := [some (.int a0), o1, some (.int a2), some (.int a3), some (.int a4), o5, some (.int a6), some (.int a7), some (.int a8)]) (S2 := [.int a8, .int a7]) (pc2 := 40) op177_38 rfl rfl ?_
      refine rx_p (L2 := [some (.int a0), o1, some (.int a2), some (.int a3), some (.int a4), o5, some (.int a6), some (.int a7), some (.int a8)]) (S2 := [.int (a7 * a8)]) (pc2 := 41) op177_40 rfl rfl ?_
      obtain ⟨x4, ex4, h⟩ := rq_bv h
      refine rx_s (v := x4) (L2 := [some (.int a0), o1, some (.int a2), some (.int a3), some (.int a4), o5, some (.int a6), some (.int x4), some (.int a8)]) (pc2 := 43) op177_41 ex4 rfl rfl ?_
      obtain ⟨x5, ex5, h⟩ := rq_bv h
      refine rx_inc (w := 1) (v := x5) (L2 := [some (.int a0), o1, some (.int a2), some (.int a3), some (.int a4), o5, some (.int a6), some (.int x4), some (.int x5)]) (pc2 := 46) op177_43 rfl (by decide) ex5 rfl rfl ?_
      refine ry_go (tgt := 27) op177_46 (by decide) (by decide) ?_
      exact ih _ _ _ _ _ h
    · have h := (if_neg b3).symm.trans h
      cases h
      exact hr _ _ rfl _ _ _
set_option maxHeartbeats 4000000 in
set_option maxRecDepth 20000 in
theorem mo_ordered_l63_ok (xs : List Int32) {d : Nat} {a0 : Int32} {a2 : Int32} {a3 : Int32} {a4 : Int32} {a6 : Int32} {r : Option Value} {τ : rn_H} {out : Int32 × rn_Mem} (hr : ∀ (z5 : Int32) (mO : rn_Mem), out = (z5, mO) → ∀ (o1 o7 o8 : Option Value), rn_R xs d 177 96 [some (.int a0), o1, some (.int a2), some (.int a3), some (.int a4), some (.int z5), some (.int a6), o7, o8] [] (rn_SH, mO) r τ) : ∀ (n : Nat) (a5 : Int32) (a8 : Int32) (o1 o7 : Option Value) (m : rn_Mem), mo_ordered_l63 a0 a2 a3 a4 a6 n a5 a8 m = some out → rn_R xs d 177 63 [some (.int a0), o1, some (.int a2), some (.int a3), some (.int a4), some (.int a5), some (.int a6), o7, some (.int a8)] [] (rn_SH, m) r τ := by
  intro n
  induction n with
  | zero =>
    intro _ _ _ _ _ h
    cases h
  | succ n ih =>
    intro a5 a8 o1 o7 m h
    unfold mo_ordered_l63 at h
    try dsimp only at h
    refine rx_p (L2 := [some (.int a0), o1, some (.int a2), some (.int a3), some (.int a4), some (.int a5), some (.int a6), o7, some (.int a8)]) (S2 := [.int a4]) (pc2 := 65) op177_63 rfl rfl ?_
    refine rx_p (L2 := [some (.int a0), o1, some (.int a2), some (.int a3), some (.int a4), some (.int a5), some (.int a6), o7, some (.int a8)]) (S2 := [.int a5, .int a4]) (pc2 := 67) op177_65 rfl rfl ?_
    refine rx_p (L2 := [some (.int a0), o1, some (.int a2), some (.int a3), some (.int a4), some (.int a5), some (.int a6), o7, some (.int a8)]) (S2 := [.int (a4 >>> (a5 &&& 31))]) (pc2 := 68) op177_67 rfl rfl ?_
    refine rx_ic (v := 1) (pc2 := 69) op177_68 (by decide) rfl ?_
    refine rx_p (L2 := [some (.int a0), o1, some (.int a2), some (.int a3), some (.int a4), some (.int a5), some (.int a6), o7, some (.int a8)]) (S2 := [.int ((a4 >>> (a5 &&& 31)) &&& 1)]) (pc2 := 70) op177_69 rfl rfl ?_
    refine ry_if_eq (tgt := 78) (pc2 := 73) op177_70 (by decide) (by decide) rfl (fun b15 => ?_) (fun b15 => ?_)
    · have h := (if_pos b15).symm.trans h
      refine rx_p (L2 := [some (.int a0), o1, some (.int a2), some (.int a3), some (.int a4), some (.int a5), some (.int a6), o7, some (.int a8)]) (S2 := [.int a8]) (pc2 := 80) op177_78 rfl rfl ?_
      refine rx_p (L2 := [some (.int a0), o1, some (.int a2), some (.int a3), some (.int a4), some (.int a5), some (.int a6), o7, some (.int a8)]) (S2 := [.int a4, .int a8]) (pc2 := 82) op177_80 rfl rfl ?_
      refine rx_p (L2 := [some (.int a0), o1, some (.int a2), some (.int a3), some (.int a4), some (.int a5), some (.int a6), o7, some (.int a8)]) (S2 := [.int a5, .int a4, .int a8]) (pc2 := 84) op177_82 rfl rfl ?_
      refine rx_p (L2 := [some (.int a0), o1, some (.int a2), some (.int a3), some (.int a4), some (.int a5), some (.int a6), o7, some (.int a8)]) (S2 := [.int (a4 >>> (a5 &&& 31)), .int a8]) (pc2 := 85) op177_84 rfl rfl ?_
      refine rx_ic (v := 1) (pc2 := 86) op177_85 (by decide) rfl ?_
      refine rx_p (L2 := [some (.int a0), o1, some (.int a2), some (.int a3), some (.int a4), some (.int a5), some (.int a6), o7, some (.int a8)]) (S2 := [.int ((a4 >>> (a5 &&& 31)) &&& 1), .int a8]) (pc2 := 87) op177_86 rfl rfl ?_
      refine rx_p (L2 := [some (.int a0), o1, some (.int a2), some (.int a3), some (.int a4), some (.int a5), some (.int a6), o7, some (.int a8)]) (S2 := [.int (a8 - ((a4 >>> (a5 &&& 31)) &&& 1))]) (pc2 := 88) op177_87 rfl rfl ?_
      obtain ⟨x18, ex18, h⟩ := rq_bv h
      refine rx_sd (v := x18) (j := 7) (pc2 := 90) op177_88 rfl ex18 (Nat.le_of_ble_eq_true rfl) rfl (fun o17 => ?_)
      show rn_R _ _ _ _ [some (.int a0), o1, some (.int a2), some (.int a3), some (.int a4), some (.int a5), some (.int a6), o17, some (.int x18)] _ _ _ _
      obtain ⟨x19, ex19, h⟩ := rq_bv h
      refine rx_inc (w := 1) (v := x19) (L2 := [some (.int a0), o1, some (.int a2), some (.int a3), some (.int a4), some (.int x19), some (.int a6), o17, some (.int x18)]) (pc2 := 93) op177_90 rfl (by decide) ex19 rfl rfl ?_
      refine ry_go (tgt := 63) op177_93 (by decide) (by decide) ?_
      exact ih _ _ _ _ _ h
    · have h := (if_neg b15).symm.trans h
      refine rx_p (L2 := [some (.int a0), o1, some (.int a2), some (.int a3), some (.int a4), some (.int a5), some (.int a6), o7, some (.int a8)]) (S2 := [.int a8]) (pc2 := 75) op177_73 rfl rfl ?_
      refine ry_if_le (tgt := 96) (pc2 := 78) op177_75 (by decide) (by decide) rfl (fun b20 => ?_) (fun b20 => ?_)
      · have h := (if_pos b20).symm.trans h
        refine rx_p (L2 := [some (.int a0), o1, some (.int a2), some (.int a3), some (.int a4), some (.int a5), some (.int a6), o7, some (.int a8)]) (S2 := [.int a8]) (pc2 := 80) op177_78 rfl rfl ?_
        refine rx_p (L2 := [some (.int a0), o1, some (.int a2), some (.int a3), some (.int a4), some (.int a5), some (.int a6), o7, some (.int a8)]) (S2 := [.int a4, .int a8]) (pc2 := 82) op177_80 rfl rfl ?_
        refine rx_p (L2 := [some (.int a0), o1, some (.int a2), some (.int a3), some (.int a4), some (.int a5), some (.int a6), o7, some (.int a8)]) (S2 := [.int a5, .int a4, .int a8]) (pc2 := 84) op177_82 rfl rfl ?_
        refine rx_p (L2 := [some (.int a0), o1, some (.int a2), some (.int a3), some (.int a4), some (.int a5), some (.int a6), o7, some (.int a8)]) (S2 := [.int (a4 >>> (a5 &&& 31)), .int a8]) (pc2 := 85) op177_84 rfl rfl ?_
        refine rx_ic (v := 1) (pc2 := 86) op177_85 (by decide) rfl ?_
        refine rx_p (L2 := [some (.int a0), o1, some (.int a2), some (.int a3), some (.int a4), some (.int a5), some (.int a6), o7, some (.int a8)]) (S2 := [.int ((a4 >>> (a5 &&& 31)) &&& 1), .int a8]) (pc2 := 87) op177_86 rfl rfl ?_
        refine rx_p (L2 := [some (.int a0), o1, some (.int a2), some (.int a3), some (.int a4), some (.int a5), some (.int a6), o7, some (.int a8)]) (S2 := [.int (a8 - ((a4 >>> (a5 &&& 31)) &&& 1))]) (pc2 := 88) op177_87 rfl rfl ?_
        obtain ⟨x22, ex22, h⟩ := rq_bv h
        refine rx_sd (v := x22) (j := 7) (pc2 := 90) op177_88 rfl ex22 (Nat.le_of_ble_eq_true rfl) rfl (fun o21 => ?_)
        show rn_R _ _ _ _ [some (.int a0), o1, some (.int a2), some (.int a3), some (.int a4), some (.int a5), some (.int a6), o21, some (.int x22)] _ _ _ _
        obtain ⟨x23, ex23, h⟩ := rq_bv h
        refine rx_inc (w := 1) (v := x23) (L2 := [some (.int a0), o1, some (.int a2), some (.int a3), some (.int a4), some (.int x23), some (.int a6), o21, some (.int x22)]) (pc2 := 93) op177_90 rfl (by decide) ex23 rfl rfl ?_
        refine ry_go (tgt := 63) op177_93 (by decide) (by decide) ?_
        exact ih _ _ _ _ _ h
      · have h := (if_neg b20).symm.trans h
        cases h
        exact hr _ _ rfl _ _ _
set_option maxHeartbeats 4000000 in
set_option maxRecDepth 20000 in
theorem mo_ordered_l15_ok (xs : List Int32) {d : Nat} {a0 : Int32} {a2 : Int32} {r : Option Value} {τ : rn_H} {out : Int32 × rn_Mem} (hr : ∀ (z5 : Int32) (mO : rn_Mem), out = (z5, mO) → ∀ (o0 o1 o2 o3 o4 o6 o7 o8 : Option Value), rn_R xs d 177 113 [o0, o1, o2, o3, o4, some (.int z5), o6, o7, o8] [] (rn_SH, mO) r τ) : ∀ (n : Nat) (a3 : Int32) (a4 : Int32) (a5 : Int32) (a6 : Int32) (o1 o7 o8 : Option Value) (m : rn_Mem), mo_ordered_l15 a0 a2 n a3 a4 a5 a6 m = some out → rn_R xs d 177 15 [some (.int a0), o1, some (.int a2), some (.int a3), some (.int a4), some (.int a5), some (.int a6), o7, o8] [] (rn_SH, m) r τ := by
  intro n
  induction n with
  | zero =>
    intro _ _ _ _ _ _ _ _ h
    cases h
  | succ n ih =>
    intro a3 a4 a5 a6 o1 o7 o8 m h
    unfold mo_ordered_l15 at h
    try dsimp only at h
    refine rx_p (L2 := [some (.int a0), o1, some (.int a2), some (.int a3), some (.int a4), some (.int a5), some (.int a6), o7, o8]) (S2 := [.int a6]) (pc2 := 17) op177_15 rfl rfl ?_
    refine rx_p (L2 := [some (.int a0), o1, some (.int a2), some (.int a3), some (.int a4), some (.int a5), some (.int a6), o7, o8]) (S2 := [.int a2, .int a6]) (pc2 := 18) op177_17 rfl rfl ?_
    refine ry_ic_gt (tgt := 113) (pc2 := 21) op177_18 (by decide) (by decide) rfl (fun b2 => ?_) (fun b2 => ?_)
    · have h := (if_pos b2).symm.trans h
      cases h
      exact hr _ _ rfl _ _ _ _ _ _ _ _
    · have h := (if_neg b2).symm.trans h
      refine rx_ic (v := 1) (pc2 := 22) op177_21 (by decide) rfl ?_
      refine rx_s (L2 := [some (.int a0), o1, some (.int a2), some (.int a3), some (.int a4), some (.int a5), some (.int a6), some (.int 1), o8]) (pc2 := 24) op177_22 rfl rfl rfl ?_
      refine rx_ic (v := 2) (pc2 := 25) op177_24 (by decide) rfl ?_
      refine rx_s (L2 := [some (.int a0), o1, some (.int a2), some (.int a3), some (.int a4), some (.int a5), some (.int a6), some (.int 1), some (.int 2)]) (pc2 := 27) op177_25 rfl rfl rfl ?_
      obtain ⟨wf32, f32, h⟩ := rq_bind h
      refine mo_ordered_l27_ok xs (fun x9 m6 eq => ?_) _ _ _ _ _ _  f32
      subst eq
      try dsimp only at h
      intro o7 o8 o10
      refine rx_p (L2 := [some (.int a0), o7, some (.int a2), some (.int a3), some (.int a4), o8, some (.int a6), some (.int x9), o10]) (S2 := [.int a3]) (pc2 := 50) op177_49 rfl rfl ?_
      refine rx_p (L2 := [some (.int a0), o7, some (.int a2), some (.int a3), some (.int a4), o8, some (.int a6), some (.int x9), o10]) (S2 := [.int x9, .int a3]) (pc2 := 52) op177_50 rfl rfl ?_
      obtain ⟨k11, h⟩ := rq_chk h
      refine rx_div (v := a3 / x9) (pc2 := 53) op177_52 k11 rfl rfl ?_
      obtain ⟨x12, ex12, h⟩ := rq_bv h
      refine rx_s (v := x12) (L2 := [some (.int a0), o7, some (.int a2), some (.int a3), some (.int a4), o8, some (.int a6), some (.int x9), some (.int x12)]) (pc2 := 55) op177_53 ex12 rfl rfl ?_
      refine rx_p (L2 := [some (.int a0), o7, some (.int a2), some (.int a3), some (.int a4), o8, some (.int a6), some (.int x9), some (.int x12)]) (S2 := [.int a3]) (pc2 := 56) op177_55 rfl rfl ?_
      refine rx_p (L2 := [some (.int a0), o7, some (.int a2), some (.int a3), some (.int a4), o8, some (.int a6), some (.int x9), some (.int x12)]) (S2 := [.int x9, .int a3]) (pc2 := 58) op177_56 rfl rfl ?_
      obtain ⟨k13, h⟩ := rq_chk h
      refine rx_rem (v := rn_rem a3 x9) (pc2 := 59) op177_58 k13 rfl rfl ?_
      obtain ⟨x14, ex14, h⟩ := rq_bv h
      refine rx_s (v := x14) (L2 := [some (.int a0), o7, some (.int a2), some (.int x14), some (.int a4), o8, some (.int a6), some (.int x9), some (.int x12)]) (pc2 := 60) op177_59 ex14 rfl rfl ?_
      refine rx_ic (v := 0) (pc2 := 61) op177_60 (by decide) rfl ?_
      refine rx_s (L2 := [some (.int a0), o7, some (.int a2), some (.int x14), some (.int a4), some (.int 0), some (.int a6), some (.int x9), some (.int x12)]) (pc2 := 63) op177_61 rfl rfl rfl ?_
      obtain ⟨wf31, f31, h⟩ := rq_bind h
      refine mo_ordered_l63_ok xs (fun x26 m24 eq => ?_) _ _ _ _ _ _  f31
      subst eq
      try dsimp only at h
      intro o25 o27 o28
      refine rx_p (L2 := [some (.int a0), o25, some (.int a2), some (.int x14), some (.int a4), some (.int x26), some (.int a6), o27, o28]) (S2 := [.int a4]) (pc2 := 98) op177_96 rfl rfl ?_
      refine rx_ic (v := 1) (pc2 := 99) op177_98 (by decide) rfl ?_
      refine rx_p (L2 := [some (.int a0), o25, some (.int a2), some (.int x14), some (.int a4), some (.int x26), some (.int a6), o27, o28]) (S2 := [.int x26, .int 1, .int a4]) (pc2 := 101) op177_99 rfl rfl ?_
      refine rx_p (L2 := [some (.int a0), o25, some (.int a2), some (.int x14), some (.int a4), some (.int x26), some (.int a6), o27, o28]) (S2 := [.int ((1 : Int32) <<< (x26 &&& 31)), .int a4]) (pc2 := 102) op177_101 rfl rfl ?_
      refine rx_ic (v := (-1)) (pc2 := 103) op177_102 (by decide) rfl ?_
      refine rx_p (L2 := [some (.int a0), o25, some (.int a2), some (.int x14), some (.int a4), some (.int x26), some (.int a6), o27, o28]) (S2 := [.int (((1 : Int32) <<< (x26 &&& 31)) ^^^ (-1)), .int a4]) (pc2 := 104) op177_103 rfl rfl ?_
      refine rx_p (L2 := [some (.int a0), o25, some (.int a2), some (.int x14), some (.int a4), some (.int x26), some (.int a6), o27, o28]) (S2 := [.int (a4 &&& (((1 : Int32) <<< (x26 &&& 31)) ^^^ (-1)))]) (pc2 := 105) op177_104 rfl rfl ?_
      obtain ⟨x29, ex29, h⟩ := rq_bv h
      refine rx_s (v := x29) (L2 := [some (.int a0), o25, some (.int a2), some (.int x14), some (.int x29), some (.int x26), some (.int a6), o27, o28]) (pc2 := 107) op177_105 ex29 rfl rfl ?_
      obtain ⟨x30, ex30, h⟩ := rq_bv h
      refine rx_inc (w := 1) (v := x30) (L2 := [some (.int a0), o25, some (.int a2), some (.int x14), some (.int x29), some (.int x26), some (.int x30), o27, o28]) (pc2 := 110) op177_107 rfl (by decide) ex30 rfl rfl ?_
      refine ry_go (tgt := 15) op177_110 (by decide) (by decide) ?_
      exact ih _ _ _ _ _ _ _ _ h
set_option maxHeartbeats 4000000 in
set_option maxRecDepth 20000 in
theorem mo_ordered_ok (xs : List Int32) {d : Nat} (hd : 0 ≤ d) {n : Nat} {a0 : Int32} {a1 : Int32} {a2 : Int32} {m mO : rn_Mem} {rO : Int32} (h : mo_ordered n a0 a1 a2 m = some (rO, mO)) : rn_R xs d 177 0 (rn_ent 9 [.int a0, .int a1, .int a2]) [] (rn_SH, m) (some (.int rO)) (rn_SH, mO) := by
  unfold mo_ordered at h
  show rn_R xs d 177 0 [some (.int a0), some (.int a1), some (.int a2), none, none, none, none, none, none] [] (rn_SH, m) (some (.int rO)) (rn_SH, mO)
  refine rx_p (L2 := [some (.int a0), some (.int a1), some (.int a2), none, none, none, none, none, none]) (S2 := [.int a1]) (pc2 := 1) op177_0 rfl rfl ?_
  refine rx_s (L2 := [some (.int a0), some (.int a1), some (.int a2), some (.int a1), none, none, none, none, none]) (pc2 := 2) op177_1 rfl rfl rfl ?_
  refine rx_ic (v := 1) (pc2 := 3) op177_2 (by decide) rfl ?_
  refine rx_p (L2 := [some (.int a0), some (.int a1), some (.int a2), some (.int a1), none, none, none, none, none]) (S2 := [.int a0, .int 1]) (pc2 := 4) op177_3 rfl rfl ?_
  refine rx_p (L2 := [some (.int a0), some (.int a1), some (.int a2), some (.int a1), none, none, none, none, none]) (S2 := [.int ((1 : Int32) <<< (a0 &&& 31))]) (pc2 := 5) op177_4 rfl rfl ?_
  refine rx_ic (v := 1) (pc2 := 6) op177_5 (by decide) rfl ?_
  refine rx_p (L2 := [some (.int a0), some (.int a1), some (.int a2), some (.int a1), none, none, none, none, none]) (S2 := [.int (((1 : Int32) <<< (a0 &&& 31)) - 1)]) (pc2 := 7) op177_6 rfl rfl ?_
  obtain ⟨x1, ex1, h⟩ := rq_bv h
  refine rx_s (v := x1) (L2 := [some (.int a0), some (.int a1), some (.int a2), some (.int a1), some (.int x1), none, none, none, none]) (pc2 := 9) op177_7 ex1 rfl rfl ?_
  refine rx_ic (v := 0) (pc2 := 10) op177_9 (by decide) rfl ?_
  refine rx_s (L2 := [some (.int a0), some (.int a1), some (.int a2), some (.int a1), some (.int x1), some (.int 0), none, none, none]) (pc2 := 12) op177_10 rfl rfl rfl ?_
  refine rx_ic (v := 0) (pc2 := 13) op177_12 (by decide) rfl ?_
  refine rx_s (L2 := [some (.int a0), some (.int a1), some (.int a2), some (.int a1), some (.int x1), some (.int 0), some (.int 0), none, none]) (pc2 := 15) op177_13 rfl rfl rfl ?_
  obtain ⟨wf43, f43, h⟩ := rq_bind h
  refine mo_ordered_l15_ok xs (fun x39 m33 eq => ?_) _ _ _ _ _ _ _ _ _  f43
  subst eq
  try dsimp only at h
  intro o34 o35 o36 o37 o38 o40 o41 o42
  refine rx_p (L2 := [o34, o35, o36, o37, o38, some (.int x39), o40, o41, o42]) (S2 := [.int x39]) (pc2 := 115) op177_113 rfl rfl ?_
  obtain ⟨rfl, rfl⟩ := rq_ret h
  exact ry_ri op177_115 ms_177 rfl
/-! mo_cluesLetOrder -/
theorem op180_0 : rn_op 180 0 = some (.iconst 1, 1, 0, 0, 0) := by decide +kernel
theorem op180_1 : rn_op 180 1 = some (.istore_n 1, 1, 0, 0, 0) := by decide +kernel
theorem op180_2 : rn_op 180 2 = some (.iconst 0, 1, 0, 0, 0) := by decide +kernel
theorem op180_3 : rn_op 180 3 = some (.istore_n 2, 1, 0, 0, 0) := by decide +kernel
theorem op180_4 : rn_op 180 4 = some (.iload_n 2, 1, 0, 0, 0) := by decide +kernel
theorem op180_5 : rn_op 180 5 = some (.aload_n 0, 1, 0, 0, 0) := by decide +kernel
theorem op180_6 : rn_op 180 6 = some (.getfield 7, 3, 11, 0, 3) := by decide +kernel
theorem op180_9 : rn_op 180 9 = some (.bipush 10, 2, 0, 0, 0) := by decide +kernel
theorem op180_11 : rn_op 180 11 = some (.iaload, 1, 0, 0, 0) := by decide +kernel
theorem op180_12 : rn_op 180 12 = some (.if_icmp .ge 111, 3, 0, 0, 0) := by decide +kernel
theorem op180_15 : rn_op 180 15 = some (.bipush 64, 2, 0, 0, 0) := by decide +kernel
theorem op180_17 : rn_op 180 17 = some (.iconst 4, 1, 0, 0, 0) := by decide +kernel
theorem op180_18 : rn_op 180 18 = some (.iload_n 2, 1, 0, 0, 0) := by decide +kernel
theorem op180_19 : rn_op 180 19 = some (.imul, 1, 0, 0, 0) := by decide +kernel
theorem op180_20 : rn_op 180 20 = some (.iadd, 1, 0, 0, 0) := by decide +kernel
theorem op180_21 : rn_op 180 21 = some (.istore_n 3, 1, 0, 0, 0) := by decide +kernel
theorem op180_22 : rn_op 180 22 = some (.aload_n 0, 1, 0, 0, 0) := by decide +kernel
theorem op180_23 : rn_op 180 23 = some (.getfield 197, 3, 11, 6, 0) := by decide +kernel
theorem op180_26 : rn_op 180 26 = some (.iload_n 2, 1, 0, 0, 0) := by decide +kernel
theorem op180_27 : rn_op 180 27 = some (.ishr, 1, 0, 0, 0) := by decide +kernel
theorem op180_28 : rn_op 180 28 = some (.iconst 1, 1, 0, 0, 0) := by decide +kernel
theorem op180_29 : rn_op 180 29 = some (.iand, 1, 0, 0, 0) := by decide +kernel
theorem op180_30 : rn_op 180 30 = some (.iconst 1, 1, 0, 0, 0) := by decide +kernel
theorem op180_31 : rn_op 180 31 = some (.if_icmp .ne 86, 3, 0, 0, 0) := by decide +kernel
theorem op180_34 : rn_op 180 34 = some (.iload_n 1, 1, 0, 0, 0) := by decide +kernel
theorem op180_35 : rn_op 180 35 = some (.ifCond .eq 80, 3, 0, 0, 0) := by decide +kernel
theorem op180_38 : rn_op 180 38 = some (.aload_n 0, 1, 0, 0, 0) := by decide +kernel
theorem op180_39 : rn_op 180 39 = some (.getfield 7, 3, 11, 0, 3) := by decide +kernel
theorem op180_42 : rn_op 180 42 = some (.iload_n 3, 1, 0, 0, 0) := by decide +kernel
theorem op180_43 : rn_op 180 43 = some (.iaload, 1, 0, 0, 0) := by decide +kernel
theorem op180_44 : rn_op 180 44 = some (.iconst 1, 1, 0, 0, 0) := by decide +kernel
theorem op180_45 : rn_op 180 45 = some (.if_icmp .ne 27, 3, 0, 0, 0) := by decide +kernel
theorem op180_48 : rn_op 180 48 = some (.aload_n 0, 1, 0, 0, 0) := by decide +kernel
theorem op180_49 : rn_op 180 49 = some (.getfield 49, 3, 11, 26, 3) := by decide +kernel
theorem op180_52 : rn_op 180 52 = some (.aload_n 0, 1, 0, 0, 0) := by decide +kernel
theorem op180_53 : rn_op 180 53 = some (.getfield 7, 3, 11, 0, 3) := by decide +kernel
theorem op180_56 : rn_op 180 56 = some (.iload_n 3, 1, 0, 0, 0) := by decide +kernel
theorem op180_57 : rn_op 180 57 = some (.iconst 2, 1, 0, 0, 0) := by decide +kernel
theorem op180_58 : rn_op 180 58 = some (.iadd, 1, 0, 0, 0) := by decide +kernel
theorem op180_59 : rn_op 180 59 = some (.iaload, 1, 0, 0, 0) := by decide +kernel
theorem op180_60 : rn_op 180 60 = some (.iaload, 1, 0, 0, 0) := by decide +kernel
theorem op180_61 : rn_op 180 61 = some (.aload_n 0, 1, 0, 0, 0) := by decide +kernel
theorem op180_62 : rn_op 180 62 = some (.getfield 7, 3, 11, 0, 3) := by decide +kernel
theorem op180_65 : rn_op 180 65 = some (.iload_n 3, 1, 0, 0, 0) := by decide +kernel
theorem op180_66 : rn_op 180 66 = some (.iconst 1, 1, 0, 0, 0) := by decide +kernel
theorem op180_67 : rn_op 180 67 = some (.iadd, 1, 0, 0, 0) := by decide +kernel
theorem op180_68 : rn_op 180 68 = some (.iaload, 1, 0, 0, 0) := by decide +kernel
theorem op180_69 : rn_op 180 69 = some (.if_icmp .ne 46, 3, 0, 0, 0) := by decide +kernel
theorem op180_72 : rn_op 180 72 = some (.aload_n 0, 1, 0, 0, 0) := by decide +kernel
theorem op180_73 : rn_op 180 73 = some (.getfield 7, 3, 11, 0, 3) := by decide +kernel
theorem op180_76 : rn_op 180 76 = some (.iload_n 3, 1, 0, 0, 0) := by decide +kernel
theorem op180_77 : rn_op 180 77 = some (.iaload, 1, 0, 0, 0) := by decide +kernel
theorem op180_78 : rn_op 180 78 = some (.iconst 2, 1, 0, 0, 0) := by decide +kernel
theorem op180_79 : rn_op 180 79 = some (.if_icmp .ne 32, 3, 0, 0, 0) := by decide +kernel
theorem op180_82 : rn_op 180 82 = some (.aload_n 0, 1, 0, 0, 0) := by decide +kernel
theorem op180_83 : rn_op 180 83 = some (.getfield 73, 3, 11, 34, 3) := by decide +kernel
theorem op180_86 : rn_op 180 86 = some (.aload_n 0, 1, 0, 0, 0) := by decide +kernel
theorem op180_87 : rn_op 180 87 = some (.getfield 7, 3, 11, 0, 3) := by decide +kernel
theorem op180_90 : rn_op 180 90 = some (.iload_n 3, 1, 0, 0, 0) := by decide +kernel
theorem op180_91 : rn_op 180 91 = some (.iconst 1, 1, 0, 0, 0) := by decide +kernel
theorem op180_92 : rn_op 180 92 = some (.iadd, 1, 0, 0, 0) := by decide +kernel
theorem op180_93 : rn_op 180 93 = some (.iaload, 1, 0, 0, 0) := by decide +kernel
theorem op180_94 : rn_op 180 94 = some (.iaload, 1, 0, 0, 0) := by decide +kernel
theorem op180_95 : rn_op 180 95 = some (.aload_n 0, 1, 0, 0, 0) := by decide +kernel
theorem op180_96 : rn_op 180 96 = some (.getfield 73, 3, 11, 34, 3) := by decide +kernel
theorem op180_99 : rn_op 180 99 = some (.aload_n 0, 1, 0, 0, 0) := by decide +kernel
theorem op180_100 : rn_op 180 100 = some (.getfield 7, 3, 11, 0, 3) := by decide +kernel
theorem op180_103 : rn_op 180 103 = some (.iload_n 3, 1, 0, 0, 0) := by decide +kernel
theorem op180_104 : rn_op 180 104 = some (.iconst 2, 1, 0, 0, 0) := by decide +kernel
theorem op180_105 : rn_op 180 105 = some (.iadd, 1, 0, 0, 0) := by decide +kernel
theorem op180_106 : rn_op 180 106 = some (.iaload, 1, 0, 0, 0) := by decide +kernel
theorem op180_107 : rn_op 180 107 = some (.iaload, 1, 0, 0, 0) := by decide +kernel
theorem op180_108 : rn_op 180 108 = some (.if_icmp .ge 7, 3, 0, 0, 0) := by decide +kernel
theorem op180_111 : rn_op 180 111 = some (.iconst 1, 1, 0, 0, 0) := by decide +kernel
theorem op180_112 : rn_op 180 112 = some (.goto 4, 3, 0, 0, 0) := by decide +kernel
theorem op180_115 : rn_op 180 115 = some (.iconst 0, 1, 0, 0, 0) := by decide +kernel
theorem op180_116 : rn_op 180 116 = some (.istore_n 1, 1, 0, 0, 0) := by decide +kernel
theorem op180_117 : rn_op 180 117 = some (.iinc 2 1, 3, 0, 0, 0) := by decide +kernel
theorem op180_120 : rn_op 180 120 = some (.goto (-116), 3, 0, 0, 0) := by decide +kernel
theorem op180_123 : rn_op 180 123 = some (.iload_n 1, 1, 0, 0, 0) := by decide +kernel
theorem op180_124 : rn_op 180 124 = some (.ireturn, 1, 0, 0, 0) := by decide +kernel
def mo_cluesLetOrder_l4  : Nat → Int32 → Int32 → rn_Mem → Option (Int32 × rn_Mem)
  | 0, _, _, _ => none
  | n + 1, a1, a2, m =>
    if a2 < (m.1 116 10) then
      (some ((64 : Int32) + ((4 : Int32) * a2))).bind fun (x2 : Int32) =>
      (show Option (Int32) from
        if (((m.1 115 6) >>> (a2 &&& 31)) &&& 1) = 1 then
          (show Option (Int32) from
            if a1 = 0 then
              some (0)
            else
              if rn_in x2 101 = true then
                if (m.1 116 x2.toNatClampNeg) = 1 then
                  if rn_in (x2 + 2) 101 = true then
                    if rn_in (m.1 116 (x2 + 2).toNatClampNeg) 4 = true then
                      if rn_in (x2 + 1) 101 = true then
                        if (m.1 129 (m.1 116 (x2 + 2).toNatClampNeg).toNatClampNeg) = (m.1 116 (x2 + 1).toNatClampNeg) then
                          if rn_in x2 101 = true then
                            if (m.1 116 x2.toNatClampNeg) = 2 then
                              if rn_in (x2 + 1) 101 = true then
                                if rn_in (m.1 116 (x2 + 1).toNatClampNeg) 16 = true then
                                  if rn_in (x2 + 2) 101 = true then
                                    if rn_in (m.1 116 (x2 + 2).toNatClampNeg) 16 = true then
                                      if (m.1 137 (m.1 116 (x2 + 1).toNatClampNeg).toNatClampNeg) < (m.1 137 (m.1 116 (x2 + 2).toNatClampNeg).toNatClampNeg) then
                                        some (1)
                                      else
                                        some (0)
                                    else none
                                  else none
                                else none
                              else none
                            else
                              some (1)
                          else none
                        else
                          some (0)
                      else none
                    else none
                  else none
                else
                  if rn_in x2 101 = true then
                    if (m.1 116 x2.toNatClampNeg) = 2 then
                      if rn_in (x2 + 1) 101 = true then
                        if rn_in (m.1 116 (x2 + 1).toNatClampNeg) 16 = true then
                          if rn_in (x2 + 2) 101 = true then
                            if rn_in (m.1 116 (x2 + 2).toNatClampNeg) 16 = true then
                              if (m.1 137 (m.1 116 (x2 + 1).toNatClampNeg).toNatClampNeg) < (m.1 137 (m.1 116 (x2 + 2).toNatClampNeg).toNatClampNeg) then
                                some (1)
                              else
                                some (0)
                            else none
                          else none
                        else none
                      else none
                    else
                      some (1)
                  else none
              else none).bind fun x27 =>
          some (x27)
        else
          some (a1)).bind fun x29 =>
      (some (a2 + 1)).bind fun (x31 : Int32) =>
      mo_cluesLetOrder_l4 n x29 x31 m
    else
      some (a1, m)
def mo_cluesLetOrder (n : Nat)  (m : rn_Mem) : Option (Int32 × rn_Mem) :=
  (mo_cluesLetOrder_l4 n 1 0 m).bind fun (x35, m33) =>
  if x35 = 0 ∨ x35 = 1 then
    some (x35, m33)
  else none
set_option maxHeartbeats 4000000 in
set_option maxRecDepth 20000 in
theorem mo_cluesLetOrder_l4_ok (xs : List Int32) {d : Nat} {r : Option Value} {τ : rn_H} {out : Int32 × rn_Mem} (hr : ∀ (z1 : Int32) (mO : rn_Mem), out = (z1, mO) → ∀ (o0 o2 o3 : Option Value), rn_R xs d 180 123 [o0, some (.int z1), o2, o3] [] (rn_SH, mO) r τ) : ∀ (n : Nat) (a1 : Int32) (a2 : Int32) (o3 : Option Value) (m : rn_Mem), mo_cluesLetOrder_l4 n a1 a2 m = some out → rn_R xs d 180 4 [some (.ref 115), some (.int a1), some (.int a2), o3] [] (rn_SH, m) r τ := by
  intro n
  induction n with
  | zero =>
    intro _ _ _ _ h
    cases h
  | succ n ih =>
    intro a1 a2 o3 m h
    unfold mo_cluesLetOrder_l4 at h
    try dsimp only at h
    refine rx_p (L2 := [some (.ref 115), some (.int a1), some (.int a2), o3]) (S2 := [.int a2]) (pc2 := 5) op180_4 rfl rfl ?_
    refine rx_p (L2 := [some (.ref 115), some (.int a1), some (.int a2), o3]) (S2 := [.ref 115, .int a2]) (pc2 := 6) op180_5 rfl rfl ?_
    refine rx_gf (v := .ref 116) (pc2 := 9) op180_6 sp_115 rfl rfl rfl ?_
    refine rx_bp (v := 10) (pc2 := 11) op180_9 (by decide) rfl ?_
    refine rx_ia (j := 10) (pc2 := 12) op180_11 (rn_shlt sp_116) sp_116 (by decide) (by decide) rfl ?_
    refine ry_ic_ge (tgt := 123) (pc2 := 15) op180_12 (by decide) (by decide) rfl (fun b1 => ?_) (fun b1 => ?_)
    · have h := (if_pos b1).symm.trans h
      refine rx_bp (v := 64) (pc2 := 17) op180_15 (by decide) rfl ?_
      refine rx_ic (v := 4) (pc2 := 18) op180_17 (by decide) rfl ?_
      refine rx_p (L2 := [some (.ref 115), some (.int a1), some (.int a2), o3]) (S2 := [.int a2, .int 4, .int 64]) (pc2 := 19) op180_18 rfl rfl ?_
      refine rx_p (L2 := [some (.ref 115), some (.int a1), some (.int a2), o3]) (S2 := [.int ((4 : Int32) * a2), .int 64]) (pc2 := 20) op180_19 rfl rfl ?_
      refine rx_p (L2 := [some (.ref 115), some (.int a1), some (.int a2), o3]) (S2 := [.int ((64 : Int32) + ((4 : Int32) * a2))]) (pc2 := 21) op180_20 rfl rfl ?_
      obtain ⟨x2, ex2, h⟩ := rq_bv h
      refine rx_s (v := x2) (L2 := [some (.ref 115), some (.int a1), some (.int a2), some (.int x2)]) (pc2 := 22) op180_21 ex2 rfl rfl ?_
      refine rx_p (L2 := [some (.ref 115), some (.int a1), some (.int a2), some (.int x2)]) (S2 := [.ref 115]) (pc2 := 23) op180_22 rfl rfl ?_
      refine rx_gf (v := .int (m.1 115 6)) (pc2 := 26) op180_23 sp_115 rfl rfl rfl ?_
      refine rx_p (L2 := [some (.ref 115), some (.int a1), some (.int a2), some (.int x2)]) (S2 := [.int a2, .int (m.1 115 6)]) (pc2 := 27) op180_26 rfl rfl ?_
      refine rx_p (L2 := [some (.ref 115), some (.int a1), some (.int a2), some (.int x2)]) (S2 := [.int ((m.1 115 6) >>> (a2 &&& 31))]) (pc2 := 28) op180_27 rfl rfl ?_
      refine rx_ic (v := 1) (pc2 := 29) op180_28 (by decide) rfl ?_
      refine rx_p (L2 := [some (.ref 115), some (.int a1), some (.int a2), some (.int x2)]) (S2 := [.int (((m.1 115 6) >>> (a2 &&& 31)) &&& 1)]) (pc2 := 30) op180_29 rfl rfl ?_
      refine rx_ic (v := 1) (pc2 := 31) op180_30 (by decide) rfl ?_
      obtain ⟨x29, gc32, h⟩ := rq_bind h
      try dsimp only at h
      have c32 : ∀ (o30 : Option Value), rn_R xs d 180 117 [some (.ref 115), some (.int x29), some (.int a2), o30] [] (rn_SH, m) r τ := by
        intro o30
        obtain ⟨x31, ex31, h⟩ := rq_bv h
        refine rx_inc (w := 1) (v := x31) (L2 := [some (.ref 115), some (.int x29), some (.int x31), o30]) (pc2 := 120) op180_117 rfl (by decide) ex31 rfl rfl ?_
        refine ry_go (tgt := 4) op180_120 (by decide) (by decide) ?_
        exact ih _ _ _ _ h
      refine ry_ic_ne (tgt := 117) (pc2 := 34) op180_31 (by decide) (by decide) rfl (fun b3 => ?_) (fun b3 => ?_)
      · have gc32 := (if_pos b3).symm.trans gc32
        refine rx_p (L2 := [some (.ref 115), some (.int a1), some (.int a2), some (.int x2)]) (S2 := [.int a1]) (pc2 := 35) op180_34 rfl rfl ?_
        obtain ⟨x27, gc28, gc32⟩ := rq_bind gc32
        try dsimp only at gc32
        have c28 : ∀ (o25 o26 : Option Value), rn_R xs d 180 116 [some (.ref 115), o25, some (.int a2), o26] [.int x27] (rn_SH, m) r τ := by
          intro o25 o26
          refine rx_s (L2 := [some (.ref 115), some (.int x27), some (.int a2), o26]) (pc2 := 117) op180_116 rfl rfl rfl ?_
          cases gc32
          exact c32 _
        refine ry_if_eq (tgt := 115) (pc2 := 38) op180_35 (by decide) (by decide) rfl (fun b4 => ?_) (fun b4 => ?_)
        · have gc28 := (if_pos b4).symm.trans gc28
          refine rx_ic (v := 0) (pc2 := 116) op180_115 (by decide) rfl ?_
          cases gc28
          exact c28 _ _
        · have gc28 := (if_neg b4).symm.trans gc28
          refine rx_p (L2 := [some (.ref 115), some (.int a1), some (.int a2), some (.int x2)]) (S2 := [.ref 115]) (pc2 := 39) op180_38 rfl rfl ?_
          refine rx_gf (v := .ref 116) (pc2 := 42) op180_39 sp_115 rfl rfl rfl ?_
          refine rx_p (L2 := [some (.ref 115), some (.int a1), some (.int a2), some (.int x2)]) (S2 := [.int x2, .ref 116]) (pc2 := 43) op180_42 rfl rfl ?_
          obtain ⟨k5, gc28⟩ := rq_chk gc28
          refine rx_ia (pc2 := 44) op180_43 (rn_shlt sp_116) sp_116 k5 rfl rfl ?_
          refine rx_ic (v := 1) (pc2 := 45) op180_44 (by decide) rfl ?_
          refine ry_ic_ne (tgt := 72) (pc2 := 48) op180_45 (by decide) (by decide) rfl (fun b6 => ?_) (fun b6 => ?_)
          · have gc28 := (if_pos b6).symm.trans gc28
            refine rx_p (L2 := [some (.ref 115), some (.int a1), some (.int a2), some (.int x2)]) (S2 := [.ref 115]) (pc2 := 49) op180_48 rfl rfl ?_
            refine rx_gf (v := .ref 129) (pc2 := 52) op180_49 sp_115 rfl rfl rfl ?_
            refine rx_p (L2 := [some (.ref 115), some (.int a1), some (.int a2), some (.int x2)]) (S2 := [.ref 115, .ref 129]) (pc2 := 53) op180_52 rfl rfl ?_
            refine rx_gf (v := .ref 116) (pc2 := 56) op180_53 sp_115 rfl rfl rfl ?_
            refine rx_p (L2 := [some (.ref 115), some (.int a1), some (.int a2), some (.int x2)]) (S2 := [.int x2, .ref 116, .ref 129]) (pc2 := 57) op180_56 rfl rfl ?_
            refine rx_ic (v := 2) (pc2 := 58) op180_57 (by decide) rfl ?_
            refine rx_p (L2 := [some (.ref 115), some (.int a1), some (.int a2), some (.int x2)]) (S2 := [.int (x2 + 2), .ref 116, .ref 129]) (pc2 := 59) op180_58 rfl rfl ?_
            obtain ⟨k7, gc28⟩ := rq_chk gc28
            refine rx_ia (pc2 := 60) op180_59 (rn_shlt sp_116) sp_116 k7 rfl rfl ?_
            obtain ⟨k8, gc28⟩ := rq_chk gc28
            refine rx_ia (pc2 := 61) op180_60 (rn_shlt sp_129) sp_129 k8 rfl rfl ?_
            refine rx_p (L2 := [some (.ref 115), some (.int a1), some (.int a2), some (.int x2)]) (S2 := [.ref 115, .int (m.1 129 (m.1 116 (x2 + 2).toNatClampNeg).toNatClampNeg)]) (pc2 := 62) op180_61 rfl rfl ?_
            refine rx_gf (v := .ref 116) (pc2 := 65) op180_62 sp_115 rfl rfl rfl ?_
            refine rx_p (L2 := [some (.ref 115), some (.int a1), some (.int a2), some (.int x2)]) (S2 := [.int x2, .ref 116, .int (m.1 129 (m.1 116 (x2 + 2).toNatClampNeg).toNatClampNeg)]) (pc2 := 66) op180_65 rfl rfl ?_
            refine rx_ic (v := 1) (pc2 := 67) op180_66 (by decide) rfl ?_
            refine rx_p (L2 := [some (.ref 115), some (.int a1), some (.int a2), some (.int x2)]) (S2 := [.int (x2 + 1), .ref 116, .int (m.1 129 (m.1 116 (x2 + 2).toNatClampNeg).toNatClampNeg)]) (pc2 := 68) op180_67 rfl rfl ?_
            obtain ⟨k9, gc28⟩ := rq_chk gc28
            refine rx_ia (pc2 := 69) op180_68 (rn_shlt sp_116) sp_116 k9 rfl rfl ?_
            refine ry_ic_ne (tgt := 115) (pc2 := 72) op180_69 (by decide) (by decide) rfl (fun b10 => ?_) (fun b10 => ?_)
            · have gc28 := (if_pos b10).symm.trans gc28
              refine rx_p (L2 := [some (.ref 115), some (.int a1), some (.int a2), some (.int x2)]) (S2 := [.ref 115]) (pc2 := 73) op180_72 rfl rfl ?_
              refine rx_gf (v := .ref 116) (pc2 := 76) op180_73 sp_115 rfl rfl rfl ?_
              refine rx_p (L2 := [some (.ref 115), some (.int a1), some (.int a2), some (.int x2)]) (S2 := [.int x2, .ref 116]) (pc2 := 77) op180_76 rfl rfl ?_
              obtain ⟨k11, gc28⟩ := rq_chk gc28
              refine rx_ia (pc2 := 78) op180_77 (rn_shlt sp_116) sp_116 k11 rfl rfl ?_
              refine rx_ic (v := 2) (pc2 := 79) op180_78 (by decide) rfl ?_
              refine ry_ic_ne (tgt := 111) (pc2 := 82) op180_79 (by decide) (by decide) rfl (fun b12 => ?_) (fun b12 => ?_)
              · have gc28 := (if_pos b12).symm.trans gc28
                refine rx_p (L2 := [some (.ref 115), some (.int a1), some (.int a2), some (.int x2)]) (S2 := [.ref 115]) (pc2 := 83) op180_82 rfl rfl ?_
                refine rx_gf (v := .ref 137) (pc2 := 86) op180_83 sp_115 rfl rfl rfl ?_
                refine rx_p (L2 := [some (.ref 115), some (.int a1), some (.int a2), some (.int x2)]) (S2 := [.ref 115, .ref 137]) (pc2 := 87) op180_86 rfl rfl ?_
                refine rx_gf (v := .ref 116) (pc2 := 90) op180_87 sp_115 rfl rfl rfl ?_
                refine rx_p (L2 := [some (.ref 115), some (.int a1), some (.int a2), some (.int x2)]) (S2 := [.int x2, .ref 116, .ref 137]) (pc2 := 91) op180_90 rfl rfl ?_
                refine rx_ic (v := 1) (pc2 := 92) op180_91 (by decide) rfl ?_
                refine rx_p (L2 := [some (.ref 115), some (.int a1), some (.int a2), some (.int x2)]) (S2 := [.int (x2 + 1), .ref 116, .ref 137]) (pc2 := 93) op180_92 rfl rfl ?_
                obtain ⟨k13, gc28⟩ := rq_chk gc28
                refine rx_ia (pc2 := 94) op180_93 (rn_shlt sp_116) sp_116 k13 rfl rfl ?_
                obtain ⟨k14, gc28⟩ := rq_chk gc28
                refine rx_ia (pc2 := 95) op180_94 (rn_shlt sp_137) sp_137 k14 rfl rfl ?_
                refine rx_p (L2 := [some (.ref 115), some (.int a1), some (.int a2), some (.int x2)]) (S2 := [.ref 115, .int (m.1 137 (m.1 116 (x2 + 1).toNatClampNeg).toNatClampNeg)]) (pc2 := 96) op180_95 rfl rfl ?_
                refine rx_gf (v := .ref 137) (pc2 := 99) op180_96 sp_115 rfl rfl rfl ?_
                refine rx_p (L2 := [some (.ref 115), some (.int a1), some (.int a2), some (.int x2)]) (S2 := [.ref 115, .ref 137, .int (m.1 137 (m.1 116 (x2 + 1).toNatClampNeg).toNatClampNeg)]) (pc2 := 100) op180_99 rfl rfl ?_
                refine rx_gf (v := .ref 116) (pc2 := 103) op180_100 sp_115 rfl rfl rfl ?_
                refine rx_p (L2 := [some (.ref 115), some (.int a1), some (.int a2), some (.int x2)]) (S2 := [.int x2, .ref 116, .ref 137, .int (m.1 137 (m.1 116 (x2 + 1).toNatClampNeg).toNatClampNeg)]) (pc2 := 104) op180_103 rfl rfl ?_
                refine rx_ic (v := 2) (pc2 := 105) op180_104 (by decide) rfl ?_
                refine rx_p (L2 := [some (.ref 115), some (.int a1), some (.int a2), some (.int x2)]) (S2 := [.int (x2 + 2), .ref 116, .ref 137, .int (m.1 137 (m.1 116 (x2 + 1).toNatClampNeg).toNatClampNeg)]) (pc2 := 106) op180_105 rfl rfl ?_
                obtain ⟨k15, gc28⟩ := rq_chk gc28
                refine rx_ia (pc2 := 107) op180_106 (rn_shlt sp_116) sp_116 k15 rfl rfl ?_
                obtain ⟨k16, gc28⟩ := rq_chk gc28
                refine rx_ia (pc2 := 108) op180_107 (rn_shlt sp_137) sp_137 k16 rfl rfl ?_
                refine ry_ic_ge (tgt := 115) (pc2 := 111) op180_108 (by decide) (by decide) rfl (fun b17 => ?_) (fun b17 => ?_)
                · have gc28 := (if_pos b17).symm.trans gc28
                  refine rx_ic (v := 1) (pc2 := 112) op180_111 (by decide) rfl ?_
                  refine ry_go (tgt := 116) op180_112 (by decide) (by decide) ?_
                  cases gc28
                  exact c28 _ _
                · have gc28 := (if_neg b17).symm.trans gc28
                  refine rx_ic (v := 0) (pc2 := 116) op180_115 (by decide) rfl ?_
                  cases gc28
                  exact c28 _ _
              · have gc28 := (if_neg b12).symm.trans gc28
                refine rx_ic (v := 1) (pc2 := 112) op180_111 (by decide) rfl ?_
                refine ry_go (tgt := 116) op180_112 (by decide) (by decide) ?_
                cases gc28
                exact c28 _ _
            · have gc28 := (if_neg b10).symm.trans gc28
              refine rx_ic (v := 0) (pc2 := 116) op180_115 (by decide) rfl ?_
              cases gc28
              exact c28 _ _
          · have gc28 := (if_neg b6).symm.trans gc28
            refine rx_p (L2 := [some (.ref 115), some (.int a1), some (.int a2), some (.int x2)]) (S2 := [.ref 115]) (pc2 := 73) op180_72 rfl rfl ?_
            refine rx_gf (v := .ref 116) (pc2 := 76) op180_73 sp_115 rfl rfl rfl ?_
            refine rx_p (L2 := [some (.ref 115), some (.int a1), some (.int a2), some (.int x2)]) (S2 := [.int x2, .ref 116]) (pc2 := 77) op180_76 rfl rfl ?_
            obtain ⟨k18, gc28⟩ := rq_chk gc28
            refine rx_ia (pc2 := 78) op180_77 (rn_shlt sp_116) sp_116 k18 rfl rfl ?_
            refine rx_ic (v := 2) (pc2 := 79) op180_78 (by decide) rfl ?_
            refine ry_ic_ne (tgt := 111) (pc2 := 82) op180_79 (by decide) (by decide) rfl (fun b19 => ?_) (fun b19 => ?_)
            · have gc28 := (if_pos b19).symm.trans gc28
              refine rx_p (L2 := [some (.ref 115), some (.int a1), some (.int a2), some (.int x2)]) (S2 := [.ref 115]) (pc2 := 83) op180_82 rfl rfl ?_
              refine rx_gf (v := .ref 137) (pc2 := 86) op180_83 sp_115 rfl rfl rfl ?_
              refine rx_p (L2 := [some (.ref 115), some (.int a1), some (.int a2), some (.int x2)]) (S2 := [.ref 115, .ref 137]) (pc2 := 87) op180_86 rfl rfl ?_
              refine rx_gf (v := .ref 116) (pc2 := 90) op180_87 sp_115 rfl rfl rfl ?_
              refine rx_p (L2 := [some (.ref 115), some (.int a1), some (.int a2), some (.int x2)]) (S2 := [.int x2, .ref 116, .ref 137]) (pc2 := 91) op180_90 rfl rfl ?_
              refine rx_ic (v := 1) (pc2 := 92) op180_91 (by decide) rfl ?_
              refine rx_p (L2 := [some (.ref 115), some (.int a1), some (.int a2), some (.int x2)]) (S2 := [.int (x2 + 1), .ref 116, .ref 137]) (pc2 := 93) op180_92 rfl rfl ?_
              obtain ⟨k20, gc28⟩ := rq_chk gc28
              refine rx_ia (pc2 := 94) op180_93 (rn_shlt sp_116) sp_116 k20 rfl rfl ?_
              obtain ⟨k21, gc28⟩ := rq_chk gc28
              refine rx_ia (pc2 := 95) op180_94 (rn_shlt sp_137) sp_137 k21 rfl rfl ?_
              refine rx_p (L2 := [some (.ref 115), some (.int a1), some (.int a2), some (.int x2)]) (S2 := [.ref 115, .int (m.1 137 (m.1 116 (x2 + 1).toNatClampNeg).toNatClampNeg)]) (pc2 := 96) op180_95 rfl rfl ?_
              refine rx_gf (v := .ref 137) (pc2 := 99) op180_96 sp_115 rfl rfl rfl ?_
              refine rx_p (L2 := [some (.ref 115), some (.int a1), some (.int a2), some (.int x2)]) (S2 := [.ref 115, .ref 137, .int (m.1 137 (m.1 116 (x2 + 1).toNatClampNeg).toNatClampNeg)]) (pc2 := 100) op180_99 rfl rfl ?_
              refine rx_gf (v := .ref 116) (pc2 := 103) op180_100 sp_115 rfl rfl rfl ?_
              refine rx_p (L2 := [some (.ref 115), some (.int a1), some (.int a2), some (.int x2)]) (S2 := [.int x2, .ref 116, .ref 137, .int (m.1 137 (m.1 116 (x2 + 1).toNatClampNeg).toNatClampNeg)]) (pc2 := 104) op180_103 rfl rfl ?_
              refine rx_ic (v := 2) (pc2 := 105) op180_104 (by decide) rfl ?_
              refine rx_p (L2 := [some (.ref 115), some (.int a1), some (.int a2), some (.int x2)]) (S2 := [.int (x2 + 2), .ref 116, .ref 137, .int (m.1 137 (m.1 116 (x2 + 1).toNatClampNeg).toNatClampNeg)]) (pc2 := 106) op180_105 rfl rfl ?_
              obtain ⟨k22, gc28⟩ := rq_chk gc28
              refine rx_ia (pc2 := 107) op180_106 (rn_shlt sp_116) sp_116 k22 rfl rfl ?_
              obtain ⟨k23, gc28⟩ := rq_chk gc28
              refine rx_ia (pc2 := 108) op180_107 (rn_shlt sp_137) sp_137 k23 rfl rfl ?_
              refine ry_ic_ge (tgt := 115) (pc2 := 111) op180_108 (by decide) (by decide) rfl (fun b24 => ?_) (fun b24 => ?_)
              · have gc28 := (if_pos b24).symm.trans gc28
                refine rx_ic (v := 1) (pc2 := 112) op180_111 (by decide) rfl ?_
                refine ry_go (tgt := 116) op180_112 (by decide) (by decide) ?_
                cases gc28
                exact c28 _ _
              · have gc28 := (if_neg b24).symm.trans gc28
                refine rx_ic (v := 0) (pc2 := 116) op180_115 (by decide) rfl ?_
                cases gc28
                exact c28 _ _
            · have gc28 := (if_neg b19).symm.trans gc28
              refine rx_ic (v := 1) (pc2 := 112) op180_111 (by decide) rfl ?_
              refine ry_go (tgt := 116) op180_112 (by decide) (by decide) ?_
              cases gc28
              exact c28 _ _
      · have gc32 := (if_neg b3).symm.trans gc32
        cases gc32
        exact c32 _
    · have h := (if_neg b1).symm.trans h
      cases h
      exact hr _ _ rfl _ _ _
set_option maxHeartbeats 4000000 in
set_option maxRecDepth 20000 in
theorem mo_cluesLetOrder_ok (xs : List Int32) {d : Nat} (hd : 0 ≤ d) {n : Nat} {m mO : rn_Mem} {rO : Int32} (h : mo_cluesLetOrder n  m = some (rO, mO)) : rn_R xs d 180 0 (rn_ent 4 [.ref 115]) [] (rn_SH, m) (some (.int rO)) (rn_SH, mO) := by
  unfold mo_cluesLetOrder at h
  show rn_R xs d 180 0 [some (.ref 115), none, none, none] [] (rn_SH, m) (some (.int rO)) (rn_SH, mO)
  refine rx_ic (v := 1) (pc2 := 1) op180_0 (by decide) rfl ?_
  refine rx_s (L2 := [some (.ref 115), some (.int 1), none, none]) (pc2 := 2) op180_1 rfl rfl rfl ?_
  refine rx_ic (v := 0) (pc2 := 3) op180_2 (by decide) rfl ?_
  refine rx_s (L2 := [some (.ref 115), some (.int 1), some (.int 0), none]) (pc2 := 4) op180_3 rfl rfl rfl ?_
  obtain ⟨wf39, f39, h⟩ := rq_bind h
  refine mo_cluesLetOrder_l4_ok xs (fun x35 m33 eq => ?_) _ _ _ _ _  f39
  subst eq
  try dsimp only at h
  intro o34 o36 o37
  refine rx_p (L2 := [o34, some (.int x35), o36, o37]) (S2 := [.int x35]) (pc2 := 124) op180_123 rfl rfl ?_
  obtain ⟨k38, h⟩ := rq_chk h
  obtain ⟨rfl, rfl⟩ := rq_ret h
  exact ry_rz (x := x35) op180_124 ms_180 rfl k38
/-! mo_cluesLetTrick -/
theorem op183_0 : rn_op 183 0 = some (.iconst 1, 1, 0, 0, 0) := by decide +kernel
theorem op183_1 : rn_op 183 1 = some (.istore_n 2, 1, 0, 0, 0) := by decide +kernel
theorem op183_2 : rn_op 183 2 = some (.iconst 0, 1, 0, 0, 0) := by decide +kernel
theorem op183_3 : rn_op 183 3 = some (.istore_n 3, 1, 0, 0, 0) := by decide +kernel
theorem op183_4 : rn_op 183 4 = some (.iload_n 3, 1, 0, 0, 0) := by decide +kernel
theorem op183_5 : rn_op 183 5 = some (.aload_n 0, 1, 0, 0, 0) := by decide +kernel
theorem op183_6 : rn_op 183 6 = some (.getfield 7, 3, 11, 0, 3) := by decide +kernel
theorem op183_9 : rn_op 183 9 = some (.bipush 10, 2, 0, 0, 0) := by decide +kernel
theorem op183_11 : rn_op 183 11 = some (.iaload, 1, 0, 0, 0) := by decide +kernel
theorem op183_12 : rn_op 183 12 = some (.if_icmp .ge 160, 3, 0, 0, 0) := by decide +kernel
theorem op183_15 : rn_op 183 15 = some (.bipush 64, 2, 0, 0, 0) := by decide +kernel
theorem op183_17 : rn_op 183 17 = some (.iconst 4, 1, 0, 0, 0) := by decide +kernel
theorem op183_18 : rn_op 183 18 = some (.iload_n 3, 1, 0, 0, 0) := by decide +kernel
theorem op183_19 : rn_op 183 19 = some (.imul, 1, 0, 0, 0) := by decide +kernel
theorem op183_20 : rn_op 183 20 = some (.iadd, 1, 0, 0, 0) := by decide +kernel
theorem op183_21 : rn_op 183 21 = some (.istore 4, 2, 0, 0, 0) := by decide +kernel
theorem op183_23 : rn_op 183 23 = some (.aload_n 0, 1, 0, 0, 0) := by decide +kernel
theorem op183_24 : rn_op 183 24 = some (.getfield 197, 3, 11, 6, 0) := by decide +kernel
theorem op183_27 : rn_op 183 27 = some (.iload_n 3, 1, 0, 0, 0) := by decide +kernel
theorem op183_28 : rn_op 183 28 = some (.ishr, 1, 0, 0, 0) := by decide +kernel
theorem op183_29 : rn_op 183 29 = some (.iconst 1, 1, 0, 0, 0) := by decide +kernel
theorem op183_30 : rn_op 183 30 = some (.iand, 1, 0, 0, 0) := by decide +kernel
theorem op183_31 : rn_op 183 31 = some (.iconst 1, 1, 0, 0, 0) := by decide +kernel
theorem op183_32 : rn_op 183 32 = some (.if_icmp .ne 134, 3, 0, 0, 0) := by decide +kernel
theorem op183_35 : rn_op 183 35 = some (.iload_n 2, 1, 0, 0, 0) := by decide +kernel
theorem op183_36 : rn_op 183 36 = some (.ifCond .eq 61, 3, 0, 0, 0) := by decide +kernel
theorem op183_39 : rn_op 183 39 = some (.aload_n 0, 1, 0, 0, 0) := by decide +kernel
theorem op183_40 : rn_op 183 40 = some (.getfield 7, 3, 11, 0, 3) := by decide +kernel
theorem op183_43 : rn_op 183 43 = some (.iload 4, 2, 0, 0, 0) := by decide +kernel
theorem op183_45 : rn_op 183 45 = some (.iaload, 1, 0, 0, 0) := by decide +kernel
theorem op183_46 : rn_op 183 46 = some (.ifCond .ne 47, 3, 0, 0, 0) := by decide +kernel
theorem op183_49 : rn_op 183 49 = some (.aload_n 0, 1, 0, 0, 0) := by decide +kernel
theorem op183_50 : rn_op 183 50 = some (.getfield 73, 3, 11, 34, 3) := by decide +kernel
theorem op183_53 : rn_op 183 53 = some (.aload_n 0, 1, 0, 0, 0) := by decide +kernel
theorem op183_54 : rn_op 183 54 = some (.getfield 7, 3, 11, 0, 3) := by decide +kernel
theorem op183_57 : rn_op 183 57 = some (.iload 4, 2, 0, 0, 0) := by decide +kernel
theorem op183_59 : rn_op 183 59 = some (.iconst 2, 1, 0, 0, 0) := by decide +kernel
theorem op183_60 : rn_op 183 60 = some (.iadd, 1, 0, 0, 0) := by decide +kernel
theorem op183_61 : rn_op 183 61 = some (.iaload, 1, 0, 0, 0) := by decide +kernel
theorem op183_62 : rn_op 183 62 = some (.iaload, 1, 0, 0, 0) := by decide +kernel
theorem op183_63 : rn_op 183 63 = some (.iload_n 1, 1, 0, 0, 0) := by decide +kernel
theorem op183_64 : rn_op 183 64 = some (.if_icmp .ne 29, 3, 0, 0, 0) := by decide +kernel
theorem op183_67 : rn_op 183 67 = some (.aload_n 0, 1, 0, 0, 0) := by decide +kernel
theorem op183_68 : rn_op 183 68 = some (.getfield 70, 3, 11, 33, 3) := by decide +kernel
theorem op183_71 : rn_op 183 71 = some (.aload_n 0, 1, 0, 0, 0) := by decide +kernel
theorem op183_72 : rn_op 183 72 = some (.getfield 7, 3, 11, 0, 3) := by decide +kernel
theorem op183_75 : rn_op 183 75 = some (.iload 4, 2, 0, 0, 0) := by decide +kernel
theorem op183_77 : rn_op 183 77 = some (.iconst 2, 1, 0, 0, 0) := by decide +kernel
theorem op183_78 : rn_op 183 78 = some (.iadd, 1, 0, 0, 0) := by decide +kernel
theorem op183_79 : rn_op 183 79 = some (.iaload, 1, 0, 0, 0) := by decide +kernel
theorem op183_80 : rn_op 183 80 = some (.iaload, 1, 0, 0, 0) := by decide +kernel
theorem op183_81 : rn_op 183 81 = some (.aload_n 0, 1, 0, 0, 0) := by decide +kernel
theorem op183_82 : rn_op 183 82 = some (.getfield 7, 3, 11, 0, 3) := by decide +kernel
theorem op183_85 : rn_op 183 85 = some (.iload 4, 2, 0, 0, 0) := by decide +kernel
theorem op183_87 : rn_op 183 87 = some (.iconst 1, 1, 0, 0, 0) := by decide +kernel
theorem op183_88 : rn_op 183 88 = some (.iadd, 1, 0, 0, 0) := by decide +kernel
theorem op183_89 : rn_op 183 89 = some (.iaload, 1, 0, 0, 0) := by decide +kernel
theorem op183_90 : rn_op 183 90 = some (.if_icmp .ne 7, 3, 0, 0, 0) := by decide +kernel
theorem op183_93 : rn_op 183 93 = some (.iconst 1, 1, 0, 0, 0) := by decide +kernel
theorem op183_94 : rn_op 183 94 = some (.goto 4, 3, 0, 0, 0) := by decide +kernel
theorem op183_97 : rn_op 183 97 = some (.iconst 0, 1, 0, 0, 0) := by decide +kernel
theorem op183_98 : rn_op 183 98 = some (.istore_n 2, 1, 0, 0, 0) := by decide +kernel
theorem op183_99 : rn_op 183 99 = some (.iload_n 2, 1, 0, 0, 0) := by decide +kernel
theorem op183_100 : rn_op 183 100 = some (.ifCond .eq 64, 3, 0, 0, 0) := by decide +kernel
theorem op183_103 : rn_op 183 103 = some (.aload_n 0, 1, 0, 0, 0) := by decide +kernel
theorem op183_104 : rn_op 183 104 = some (.getfield 7, 3, 11, 0, 3) := by decide +kernel
theorem op183_107 : rn_op 183 107 = some (.iload 4, 2, 0, 0, 0) := by decide +kernel
theorem op183_109 : rn_op 183 109 = some (.iaload, 1, 0, 0, 0) := by decide +kernel
theorem op183_110 : rn_op 183 110 = some (.iconst 3, 1, 0, 0, 0) := by decide +kernel
theorem op183_111 : rn_op 183 111 = some (.if_icmp .ne 49, 3, 0, 0, 0) := by decide +kernel
theorem op183_114 : rn_op 183 114 = some (.aload_n 0, 1, 0, 0, 0) := by decide +kernel
theorem op183_115 : rn_op 183 115 = some (.getfield 7, 3, 11, 0, 3) := by decide +kernel
theorem op183_118 : rn_op 183 118 = some (.iload 4, 2, 0, 0, 0) := by decide +kernel
theorem op183_120 : rn_op 183 120 = some (.iconst 3, 1, 0, 0, 0) := by decide +kernel
theorem op183_121 : rn_op 183 121 = some (.iadd, 1, 0, 0, 0) := by decide +kernel
theorem op183_122 : rn_op 183 122 = some (.iaload, 1, 0, 0, 0) := by decide +kernel
theorem op183_123 : rn_op 183 123 = some (.iload_n 1, 1, 0, 0, 0) := by decide +kernel
theorem op183_124 : rn_op 183 124 = some (.if_icmp .ne 36, 3, 0, 0, 0) := by decide +kernel
theorem op183_127 : rn_op 183 127 = some (.aload_n 0, 1, 0, 0, 0) := by decide +kernel
theorem op183_128 : rn_op 183 128 = some (.getfield 64, 3, 11, 31, 3) := by decide +kernel
theorem op183_131 : rn_op 183 131 = some (.iconst 4, 1, 0, 0, 0) := by decide +kernel
theorem op183_132 : rn_op 183 132 = some (.iload_n 1, 1, 0, 0, 0) := by decide +kernel
theorem op183_133 : rn_op 183 133 = some (.imul, 1, 0, 0, 0) := by decide +kernel
theorem op183_134 : rn_op 183 134 = some (.aload_n 0, 1, 0, 0, 0) := by decide +kernel
theorem op183_135 : rn_op 183 135 = some (.getfield 7, 3, 11, 0, 3) := by decide +kernel
theorem op183_138 : rn_op 183 138 = some (.iload 4, 2, 0, 0, 0) := by decide +kernel
theorem op183_140 : rn_op 183 140 = some (.iconst 1, 1, 0, 0, 0) := by decide +kernel
theorem op183_141 : rn_op 183 141 = some (.iadd, 1, 0, 0, 0) := by decide +kernel
theorem op183_142 : rn_op 183 142 = some (.iaload, 1, 0, 0, 0) := by decide +kernel
theorem op183_143 : rn_op 183 143 = some (.iadd, 1, 0, 0, 0) := by decide +kernel
theorem op183_144 : rn_op 183 144 = some (.iaload, 1, 0, 0, 0) := by decide +kernel
theorem op183_145 : rn_op 183 145 = some (.aload_n 0, 1, 0, 0, 0) := by decide +kernel
theorem op183_146 : rn_op 183 146 = some (.getfield 7, 3, 11, 0, 3) := by decide +kernel
theorem op183_149 : rn_op 183 149 = some (.iload 4, 2, 0, 0, 0) := by decide +kernel
theorem op183_151 : rn_op 183 151 = some (.iconst 2, 1, 0, 0, 0) := by decide +kernel
theorem op183_152 : rn_op 183 152 = some (.iadd, 1, 0, 0, 0) := by decide +kernel
theorem op183_153 : rn_op 183 153 = some (.iaload, 1, 0, 0, 0) := by decide +kernel
theorem op183_154 : rn_op 183 154 = some (.ishr, 1, 0, 0, 0) := by decide +kernel
theorem op183_155 : rn_op 183 155 = some (.iconst 1, 1, 0, 0, 0) := by decide +kernel
theorem op183_156 : rn_op 183 156 = some (.iand, 1, 0, 0, 0) := by decide +kernel
theorem op183_157 : rn_op 183 157 = some (.ifCond .ne 7, 3, 0, 0, 0) := by decide +kernel
theorem op183_160 : rn_op 183 160 = some (.iconst 1, 1, 0, 0, 0) := by decide +kernel
theorem op183_161 : rn_op 183 161 = some (.goto 4, 3, 0, 0, 0) := by decide +kernel
theorem op183_164 : rn_op 183 164 = some (.iconst 0, 1, 0, 0, 0) := by decide +kernel
theorem op183_165 : rn_op 183 165 = some (.istore_n 2, 1, 0, 0, 0) := by decide +kernel
theorem op183_166 : rn_op 183 166 = some (.iinc 3 1, 3, 0, 0, 0) := by decide +kernel
theorem op183_169 : rn_op 183 169 = some (.goto (-165), 3, 0, 0, 0) := by decide +kernel
theorem op183_172 : rn_op 183 172 = some (.iload_n 2, 1, 0, 0, 0) := by decide +kernel
theorem op183_173 : rn_op 183 173 = some (.ireturn, 1, 0, 0, 0) := by decide +kernel
def mo_cluesLetTrick_l4 (a1 : Int32) : Nat → Int32 → Int32 → rn_Mem → Option (Int32 × rn_Mem)
  | 0, _, _, _ => none
  | n + 1, a2, a3, m =>
    if a3 < (m.1 116 10) then
      (some ((64 : Int32) + ((4 : Int32) * a3))).bind fun (x2 : Int32) =>
      (show Option (Int32) from
        if (((m.1 115 6) >>> (a3 &&& 31)) &&& 1) = 1 then
          (show Option (Int32) from
            if a2 = 0 then
              some (0)
            else
              if rn_in x2 101 = true then
                if (m.1 116 x2.toNatClampNeg) = 0 then
                  if rn_in (x2 + 2) 101 = true then
                    if rn_in (m.1 116 (x2 + 2).toNatClampNeg) 16 = true then
                      if (m.1 137 (m.1 116 (x2 + 2).toNatClampNeg).toNatClampNeg) = a1 then
                        if rn_in (x2 + 2) 101 = true then
                          if rn_in (m.1 116 (x2 + 2).toNatClampNeg) 16 = true then
                            if rn_in (x2 + 1) 101 = true then
                              if (m.1 136 (m.1 116 (x2 + 2).toNatClampNeg).toNatClampNeg) = (m.1 116 (x2 + 1).toNatClampNeg) then
                                some (1)
                              else
                                some (0)
                            else none
                          else none
                        else none
                      else
                        some (1)
                    else none
                  else none
                else
                  some (1)
              else none).bind fun x15 =>
          (show Option (Int32) from
            if x15 = 0 then
              some (0)
            else
              if rn_in x2 101 = true then
                if (m.1 116 x2.toNatClampNeg) = 3 then
                  if rn_in (x2 + 3) 101 = true then
                    if (m.1 116 (x2 + 3).toNatClampNeg) = a1 then
                      if rn_in (x2 + 1) 101 = true then
                        if rn_in (((4 : Int32) * a1) + (m.1 116 (x2 + 1).toNatClampNeg)) 20 = true then
                          if rn_in (x2 + 2) 101 = true then
                            if (((m.1 134 (((4 : Int32) * a1) + (m.1 116 (x2 + 1).toNatClampNeg)).toNatClampNeg) >>> ((m.1 116 (x2 + 2).toNatClampNeg) &&& 31)) &&& 1) = 0 then
                              some (1)
                            else
                              some (0)
                          else none
                        else none
                      else none
                    else
                      some (1)
                  else none
                else
                  some (1)
              else none).bind fun x27 =>
          some (x27)
        else
          some (a2)).bind fun x30 =>
      (some (a3 + 1)).bind fun (x32 : Int32) =>
      mo_cluesLetTrick_l4 a1 n x30 x32 m
    else
      some (a2, m)
def mo_cluesLetTrick (n : Nat) (a1 : Int32) (m : rn_Mem) : Option (Int32 × rn_Mem) :=
  (mo_cluesLetTrick_l4 a1 n 1 0 m).bind fun (x37, m34) =>
  if x37 = 0 ∨ x37 = 1 then
    some (x37, m34)
  else none
set_option maxHeartbeats 4000000 in
set_option maxRecDepth 20000 in
theorem mo_cluesLetTrick_l4_ok (xs : List Int32) {d : Nat} {a1 : Int32} {r : Option Value} {τ : rn_H} {out : Int32 × rn_Mem} (hr : ∀ (z2 : Int32) (mO : rn_Mem), out = (z2, mO) → ∀ (o0 o1 o3 o4 : Option Value), rn_R xs d 183 172 [o0, o1, some (.int z2), o3, o4] [] (rn_SH, mO) r τ) : ∀ (n : Nat) (a2 : Int32) (a3 : Int32) (o4 : Option Value) (m : rn_Mem), mo_cluesLetTrick_l4 a1 n a2 a3 m = some out → rn_R xs d 183 4 [some (.ref 115), some (.int a1), some (.int a2), some (.int a3), o4] [] (rn_SH, m) r τ := by
  intro n
  induction n with
  | zero =>
    intro _ _ _ _ h
    cases h
  | succ n ih =>
    intro a2 a3 o4 m h
    unfold mo_cluesLetTrick_l4 at h
    try dsimp only at h
    refine rx_p (L2 := [some (.ref 115), some (.int a1), some (.int a2), some (.int a3), o4]) (S2 := [.int a3]) (pc2 := 5) op183_4 rfl rfl ?_
    refine rx_p (L2 := [some (.ref 115), some (.int a1), some (.int a2), some (.int a3), o4]) (S2 := [.ref 115, .int a3]) (pc2 := 6) op183_5 rfl rfl ?_
    refine rx_gf (v := .ref 116) (pc2 := 9) op183_6 sp_115 rfl rfl rfl ?_
    refine rx_bp (v := 10) (pc2 := 11) op183_9 (by decide) rfl ?_
    refine rx_ia (j := 10) (pc2 := 12) op183_11 (rn_shlt sp_116) sp_116 (by decide) (by decide) rfl ?_
    refine ry_ic_ge (tgt := 172) (pc2 := 15) op183_12 (by decide) (by decide) rfl (fun b1 => ?_) (fun b1 => ?_)
    · have h := (if_pos b1).symm.trans h
      refine rx_bp (v := 64) (pc2 := 17) op183_15 (by decide) rfl ?_
      refine rx_ic (v := 4) (pc2 := 18) op183_17 (by decide) rfl ?_
      refine rx_p (L2 := [some (.ref 115), some (.int a1), some (.int a2), some (.int a3), o4]) (S2 := [.int a3, .int 4, .int 64]) (pc2 := 19) op183_18 rfl rfl ?_
      refine rx_p (L2 := [some (.ref 115), some (.int a1), some (.int a2), some (.int a3), o4]) (S2 := [.int ((4 : Int32) * a3), .int 64]) (pc2 := 20) op183_19 rfl rfl ?_
      refine rx_p (L2 := [some (.ref 115), some (.int a1), some (.int a2), some (.int a3), o4]) (S2 := [.int ((64 : Int32) + ((4 : Int32) * a3))]) (pc2 := 21) op183_20 rfl rfl ?_
      obtain ⟨x2, ex2, h⟩ := rq_bv h
      refine rx_s (v := x2) (L2 := [some (.ref 115), some (.int a1), some (.int a2), some (.int a3), some (.int x2)]) (pc2 := 23) op183_21 ex2 rfl rfl ?_
      refine rx_p (L2 := [some (.ref 115), some (.int a1), some (.int a2), some (.int a3), some (.int x2)]) (S2 := [.ref 115]) (pc2 := 24) op183_23 rfl rfl ?_
      refine rx_gf (v := .int (m.1 115 6)) (pc2 := 27) op183_24 sp_115 rfl rfl rfl ?_
      refine rx_p (L2 := [some (.ref 115), some (.int a1), some (.int a2), some (.int a3), some (.int x2)]) (S2 := [.int a3, .int (m.1 115 6)]) (pc2 := 28) op183_27 rfl rfl ?_
      refine rx_p (L2 := [some (.ref 115), some (.int a1), some (.int a2), some (.int a3), some (.int x2)]) (S2 := [.int ((m.1 115 6) >>> (a3 &&& 31))]) (pc2 := 29) op183_28 rfl rfl ?_
      refine rx_ic (v := 1) (pc2 := 30) op183_29 (by decide) rfl ?_
      refine rx_p (L2 := [some (.ref 115), some (.int a1), some (.int a2), some (.int a3), some (.int x2)]) (S2 := [.int (((m.1 115 6) >>> (a3 &&& 31)) &&& 1)]) (pc2 := 31) op183_30 rfl rfl ?_
      refine rx_ic (v := 1) (pc2 := 32) op183_31 (by decide) rfl ?_
      obtain ⟨x30, gc33, h⟩ := rq_bind h
      try dsimp only at h
      have c33 : ∀ (o31 : Option Value), rn_R xs d 183 166 [some (.ref 115), some (.int a1), some (.int x30), some (.int a3), o31] [] (rn_SH, m) r τ := by
        intro o31
        obtain ⟨x32, ex32, h⟩ := rq_bv h
        refine rx_inc (w := 1) (v := x32) (L2 := [some (.ref 115), some (.int a1), some (.int x30), some (.int x32), o31]) (pc2 := 169) op183_166 rfl (by decide) ex32 rfl rfl ?_
        refine ry_go (tgt := 4) op183_169 (by decide) (by decide) ?_
        exact ih _ _ _ _ h
      refine ry_ic_ne (tgt := 166) (pc2 := 35) op183_32 (by decide) (by decide) rfl (fun b3 => ?_) (fun b3 => ?_)
      · have gc33 := (if_pos b3).symm.trans gc33
        refine rx_p (L2 := [some (.ref 115), some (.int a1), some (.int a2), some (.int a3), some (.int x2)]) (S2 := [.int a2]) (pc2 := 36) op183_35 rfl rfl ?_
        obtain ⟨x15, gc29, gc33⟩ := rq_bind gc33
        try dsimp only at gc33
        have c29 : ∀ (o14 : Option Value), rn_R xs d 183 98 [some (.ref 115), some (.int a1), o14, some (.int a3), some (.int x2)] [.int x15] (rn_SH, m) r τ := by
          intro o14
          refine rx_s (L2 := [some (.ref 115), some (.int a1), some (.int x15), some (.int a3), some (.int x2)]) (pc2 := 99) op183_98 rfl rfl rfl ?_
          refine rx_p (L2 := [some (.ref 115), some (.int a1), some (.int x15), some (.int a3), some (.int x2)]) (S2 := [.int x15]) (pc2 := 100) op183_99 rfl rfl ?_
          obtain ⟨x27, gc28, gc33⟩ := rq_bind gc33
          try dsimp only at gc33
          have c28 : ∀ (o25 o26 : Option Value), rn_R xs d 183 165 [some (.ref 115), some (.int a1), o25, some (.int a3), o26] [.int x27] (rn_SH, m) r τ := by
            intro o25 o26
            refine rx_s (L2 := [some (.ref 115), some (.int a1), some (.int x27), some (.int a3), o26]) (pc2 := 166) op183_165 rfl rfl rfl ?_
            cases gc33
            exact c33 _
          refine ry_if_eq (tgt := 164) (pc2 := 103) op183_100 (by decide) (by decide) rfl (fun b16 => ?_) (fun b16 => ?_)
          · have gc28 := (if_pos b16).symm.trans gc28
            refine rx_ic (v := 0) (pc2 := 165) op183_164 (by decide) rfl ?_
            cases gc28
            exact c28 _ _
          · have gc28 := (if_neg b16).symm.trans gc28
            refine rx_p (L2 := [some (.ref 115), some (.int a1), some (.int x15), some (.int a3), some (.int x2)]) (S2 := [.ref 115]) (pc2 := 104) op183_103 rfl rfl ?_
            refine rx_gf (v := .ref 116) (pc2 := 107) op183_104 sp_115 rfl rfl rfl ?_
            refine rx_p (L2 := [some (.ref 115), some (.int a1), some (.int x15), some (.int a3), some (.int x2)]) (S2 := [.int x2, .ref 116]) (pc2 := 109) op183_107 rfl rfl ?_
            obtain ⟨k17, gc28⟩ := rq_chk gc28
            refine rx_ia (pc2 := 110) op183_109 (rn_shlt sp_116) sp_116 k17 rfl rfl ?_
            refine rx_ic (v := 3) (pc2 := 111) op183_110 (by decide) rfl ?_
            refine ry_ic_ne (tgt := 160) (pc2 := 114) op183_111 (by decide) (by decide) rfl (fun b18 => ?_) (fun b18 => ?_)
            · have gc28 := (if_pos b18).symm.trans gc28
              refine rx_p (L2 := [some (.ref 115), some (.int a1), some (.int x15), some (.int a3), some (.int x2)]) (S2 := [.ref 115]) (pc2 := 115) op183_114 rfl rfl ?_
              refine rx_gf (v := .ref 116) (pc2 := 118) op183_115 sp_115 rfl rfl rfl ?_
              refine rx_p (L2 := [some (.ref 115), some (.int a1), some (.int x15), some (.int a3), some (.int x2)]) (S2 := [.int x2, .ref 116]) (pc2 := 120) op183_118 rfl rfl ?_
              refine rx_ic (v := 3) (pc2 := 121) op183_120 (by decide) rfl ?_
              refine rx_p (L2 := [some (.ref 115), some (.int a1), some (.int x15), some (.int a3), some (.int x2)]) (S2 := [.int (x2 + 3), .ref 116]) (pc2 := 122) op183_121 rfl rfl ?_
              obtain ⟨k19, gc28⟩ := rq_chk gc28
              refine rx_ia (pc2 := 123) op183_122 (rn_shlt sp_116) sp_116 k19 rfl rfl ?_
              refine rx_p (L2 := [some (.ref 115), some (.int a1), some (.int x15), some (.int a3), some (.int x2)]) (S2 := [.int a1, .int (m.1 116 (x2 + 3).toNatClampNeg)]) (pc2 := 124) op183_123 rfl rfl ?_
              refine ry_ic_ne (tgt := 160) (pc2 := 127) op183_124 (by decide) (by decide) rfl (fun b20 => ?_) (fun b20 => ?_)
              · have gc28 := (if_pos b20).symm.trans gc28
                refine rx_p (L2 := [some (.ref 115), some (.int a1), some (.int x15), some (.int a3), some (.int x2)]) (S2 := [.ref 115]) (pc2 := 128) op183_127 rfl rfl ?_
                refine rx_gf (v := .ref 134) (pc2 := 131) op183_128 sp_115 rfl rfl rfl ?_
                refine rx_ic (v := 4) (pc2 := 132) op183_131 (by decide) rfl ?_
                refine rx_p (L2 := [some (.ref 115), some (.int a1), some (.int x15), some (.int a3), some (.int x2)]) (S2 := [.int a1, .int 4, .ref 134]) (pc2 := 133) op183_132 rfl rfl ?_
                refine rx_p (L2 := [some (.ref 115), some (.int a1), some (.int x15), some (.int a3), some (.int x2)]) (S2 := [.int ((4 : Int32) * a1), .ref 134]) (pc2 := 134) op183_133 rfl rfl ?_
                refine rx_p (L2 := [some (.ref 115), some (.int a1), some (.int x15), some (.int a3), some (.int x2)]) (S2 := [.ref 115, .int ((4 : Int32) * a1), .ref 134]) (pc2 := 135) op183_134 rfl rfl ?_
                refine rx_gf (v := .ref 116) (pc2 := 138) op183_135 sp_115 rfl rfl rfl ?_
                refine rx_p (L2 := [some (.ref 115), some (.int a1), some (.int x15), some (.int a3), some (.int x2)]) (S2 := [.int x2, .ref 116, .int ((4 : Int32) * a1), .ref 134]) (pc2 := 140) op183_138 rfl rfl ?_
                refine rx_ic (v := 1) (pc2 := 141) op183_140 (by decide) rfl ?_
                refine rx_p (L2 := [some (.ref 115), some (.int a1), some (.int x15), some (.int a3), some (.int x2)]) (S2 := [.int (x2 + 1), .ref 116, .int ((4 : Int32) * a1), .ref 134]) (pc2 := 142) op183_141 rfl rfl ?_
                obtain ⟨k21, gc28⟩ := rq_chk gc28
                refine rx_ia (pc2 := 143) op183_142 (rn_shlt sp_116) sp_116 k21 rfl rfl ?_
                refine rx_p (L2 := [some (.ref 115), some (.int a1), some (.int x15), some (.int a3), some (.int x2)]) (S2 := [.int (((4 : Int32) * a1) + (m.1 116 (x2 + 1).toNatClampNeg)), .ref 134]) (pc2 := 144) op183_143 rfl rfl ?_
                obtain ⟨k22, gc28⟩ := rq_chk gc28
                refine rx_ia (pc2 := 145) op183_144 (rn_shlt sp_134) sp_134 k22 rfl rfl ?_
                refine rx_p (L2 := [some (.ref 115), some (.int a1), some (.int x15), some (.int a3), some (.int x2)]) (S2 := [.ref 115, .int (m.1 134 (((4 : Int32) * a1) + (m.1 116 (x2 + 1).toNatClampNeg)).toNatClampNeg)]) (pc2 := 146) op183_145 rfl rfl ?_
                refine rx_gf (v := .ref 116) (pc2 := 149) op183_146 sp_115 rfl rfl rfl ?_
                refine rx_p (L2 := [some (.ref 115), some (.int a1), some (.int x15), some (.int a3), some (.int x2)]) (S2 := [.int x2, .ref 116, .int (m.1 134 (((4 : Int32) * a1) + (m.1 116 (x2 + 1).toNatClampNeg)).toNatClampNeg)]) (pc2 := 151) op183_149 rfl rfl ?_
                refine rx_ic (v := 2) (pc2 := 152) op183_151 (by decide) rfl ?_
                refine rx_p (L2 := [some (.ref 115), some (.int a1), some (.int x15), some (.int a3), some (.int x2)]) (S2 := [.int (x2 + 2), .ref 116, .int (m.1 134 (((4 : Int32) * a1) + (m.1 116 (x2 + 1).toNatClampNeg)).toNatClampNeg)]) (pc2 := 153) op183_152 rfl rfl ?_
                obtain ⟨k23, gc28⟩ := rq_chk gc28
                refine rx_ia (pc2 := 154) op183_153 (rn_shlt sp_116) sp_116 k23 rfl rfl ?_
                refine rx_p (L2 := [some (.ref 115), some (.int a1), some (.int x15), some (.int a3), some (.int x2)]) (S2 := [.int ((m.1 134 (((4 : Int32) * a1) + (m.1 116 (x2 + 1).toNatClampNeg)).toNatClampNeg) >>> ((m.1 116 (x2 + 2).toNatClampNeg) &&& 31))]) (pc2 := 155) op183_154 rfl rfl ?_
                refine rx_ic (v := 1) (pc2 := 156) op183_155 (by decide) rfl ?_
                refine rx_p (L2 := [some (.ref 115), some (.int a1), some (.int x15), some (.int a3), some (.int x2)]) (S2 := [.int (((m.1 134 (((4 : Int32) * a1) + (m.1 116 (x2 + 1).toNatClampNeg)).toNatClampNeg) >>> ((m.1 116 (x2 + 2).toNatClampNeg) &&& 31)) &&& 1)]) (pc2 := 157) op183_156 rfl rfl ?_
                refine ry_if_ne (tgt := 164) (pc2 := 160) op183_157 (by decide) (by decide) rfl (fun b24 => ?_) (fun b24 => ?_)
                · have gc28 := (if_pos b24).symm.trans gc28
                  refine rx_ic (v := 1) (pc2 := 161) op183_160 (by decide) rfl ?_
                  refine ry_go (tgt := 165) op183_161 (by decide) (by decide) ?_
                  cases gc28
                  exact c28 _ _
                · have gc28 := (if_neg b24).symm.trans gc28
                  refine rx_ic (v := 0) (pc2 := 165) op183_164 (by decide) rfl ?_
                  cases gc28
                  exact c28 _ _
              · have gc28 := (if_neg b20).symm.trans gc28
                refine rx_ic (v := 1) (pc2 := 161) op183_160 (by decide) rfl ?_
                refine ry_go (tgt := 165) op183_161 (by decide) (by decide) ?_
                cases gc28
                exact c28 _ _
            · have gc28 := (if_neg b18).symm.trans gc28
              refine rx_ic (v := 1) (pc2 := 161) op183_160 (by decide) rfl ?_
              refine ry_go (tgt := 165) op183_161 (by decide) (by decide) ?_
              cases gc28
              exact c28 _ _
        refine ry_if_eq (tgt := 97) (pc2 := 39) op183_36 (by decide) (by decide) rfl (fun b4 => ?_) (fun b4 => ?_)
        · have gc29 := (if_pos b4).symm.trans gc29
          refine rx_ic (v := 0) (pc2 := 98) op183_97 (by decide) rfl ?_
          cases gc29
          exact c29 _
        · have gc29 := (if_neg b4).symm.trans gc29
          refine rx_p (L2 := [some (.ref 115), some (.int a1), some (.int a2), some (.int a3), some (.int x2)]) (S2 := [.ref 115]) (pc2 := 40) op183_39 rfl rfl ?_
          refine rx_gf (v := .ref 116) (pc2 := 43) op183_40 sp_115 rfl rfl rfl ?_
          refine rx_p (L2 := [some (.ref 115), some (.int a1), some (.int a2), some (.int a3), some (.int x2)]) (S2 := [.int x2, .ref 116]) (pc2 := 45) op183_43 rfl rfl ?_
          obtain ⟨k5, gc29⟩ := rq_chk gc29
          refine rx_ia (pc2 := 46) op183_45 (rn_shlt sp_116) sp_116 k5 rfl rfl ?_
          refine ry_if_ne (tgt := 93) (pc2 := 49) op183_46 (by decide) (by decide) rfl (fun b6 => ?_) (fun b6 => ?_)
          · have gc29 := (if_pos b6).symm.trans gc29
            refine rx_p (L2 := [some (.ref 115), some (.int a1), some (.int a2), some (.int a3), some (.int x2)]) (S2 := [.ref 115]) (pc2 := 50) op183_49 rfl rfl ?_
            refine rx_gf (v := .ref 137) (pc2 := 53) op183_50 sp_115 rfl rfl rfl ?_
            refine rx_p (L2 := [some (.ref 115), some (.int a1), some (.int a2), some (.int a3), some (.int x2)]) (S2 := [.ref 115, .ref 137]) (pc2 := 54) op183_53 rfl rfl ?_
            refine rx_gf (v := .ref 116) (pc2 := 57) op183_54 sp_115 rfl rfl rfl ?_
            refine rx_p (L2 := [some (.ref 115), some (.int a1), some (.int a2), some (.int a3), some (.int x2)]) (S2 := [.int x2, .ref 116, .ref 137]) (pc2 := 59) op183_57 rfl rfl ?_
            refine rx_ic (v := 2) (pc2 := 60) op183_59 (by decide) rfl ?_
            refine rx_p (L2 := [some (.ref 115), some (.int a1), some (.int a2), some (.int a3), some (.int x2)]) (S2 := [.int (x2 + 2), .ref 116, .ref 137]) (pc2 := 61) op183_60 rfl rfl ?_
            obtain ⟨k7, gc29⟩ := rq_chk gc29
            refine rx_ia (pc2 := 62) op183_61 (rn_shlt sp_116) sp_116 k7 rfl rfl ?_
            obtain ⟨k8, gc29⟩ := rq_chk gc29
            refine rx_ia (pc2 := 63) op183_62 (rn_shlt sp_137) sp_137 k8 rfl rfl ?_
            refine rx_p (L2 := [some (.ref 115), some (.int a1), some (.int a2), some (.int a3), some (.int x2)]) (S2 := [.int a1, .int (m.1 137 (m.1 116 (x2 + 2).toNatClampNeg).toNatClampNeg)]) (pc2 := 64) op183_63 rfl rfl ?_
            refine ry_ic_ne (tgt := 93) (pc2 := 67) op183_64 (by decide) (by decide) rfl (fun b9 => ?_) (fun b9 => ?_)
            · have gc29 := (if_pos b9).symm.trans gc29
              refine rx_p (L2 := [some (.ref 115), some (.int a1), some (.int a2), some (.int a3), some (.int x2)]) (S2 := [.ref 115]) (pc2 := 68) op183_67 rfl rfl ?_
              refine rx_gf (v := .ref 136) (pc2 := 71) op183_68 sp_115 rfl rfl rfl ?_
              refine rx_p (L2 := [some (.ref 115), some (.int a1), some (.int a2), some (.int a3), some (.int x2)]) (S2 := [.ref 115, .ref 136]) (pc2 := 72) op183_71 rfl rfl ?_
              refine rx_gf (v := .ref 116) (pc2 := 75) op183_72 sp_115 rfl rfl rfl ?_
              refine rx_p (L2 := [some (.ref 115), some (.int a1), some (.int a2), some (.int a3), some (.int x2)]) (S2 := [.int x2, .ref 116, .ref 136]) (pc2 := 77) op183_75 rfl rfl ?_
              refine rx_ic (v := 2) (pc2 := 78) op183_77 (by decide) rfl ?_
              refine rx_p (L2 := [some (.ref 115), some (.int a1), some (.int a2), some (.int a3), some (.int x2)]) (S2 := [.int (x2 + 2), .ref 116, .ref 136]) (pc2 := 79) op183_78 rfl rfl ?_
              obtain ⟨k10, gc29⟩ := rq_chk gc29
              refine rx_ia (pc2 := 80) op183_79 (rn_shlt sp_116) sp_116 k10 rfl rfl ?_
              obtain ⟨k11, gc29⟩ := rq_chk gc29
              refine rx_ia (pc2 := 81) op183_80 (rn_shlt sp_136) sp_136 k11 rfl rfl ?_
              refine rx_p (L2 := [some (.ref 115), some (.int a1), some (.int a2), some (.int a3), some (.int x2)]) (S2 := [.ref 115, .int (m.1 136 (m.1 116 (x2 + 2).toNatClampNeg).toNatClampNeg)]) (pc2 := 82) op183_81 rfl rfl ?_
              refine rx_gf (v := .ref 116) (pc2 := 85) op183_82 sp_115 rfl rfl rfl ?_
              refine rx_p (L2 := [some (.ref 115), some (.int a1), some (.int a2), some (.int a3), some (.int x2)]) (S2 := [.int x2, .ref 116, .int (m.1 136 (m.1 116 (x2 + 2).toNatClampNeg).toNatClampNeg)]) (pc2 := 87) op183_85 rfl rfl ?_
              refine rx_ic (v := 1) (pc2 := 88) op183_87 (by decide) rfl ?_
              refine rx_p (L2 := [some (.ref 115), some (.int a1), some (.int a2), some (.int a3), some (.int x2)]) (S2 := [.int (x2 + 1), .ref 116, .int (m.1 136 (m.1 116 (x2 + 2).toNatClampNeg).toNatClampNeg)]) (pc2 := 89) op183_88 rfl rfl ?_
              obtain ⟨k12, gc29⟩ := rq_chk gc29
              refine rx_ia (pc2 := 90) op183_89 (rn_shlt sp_116) sp_116 k12 rfl rfl ?_
              refine ry_ic_ne (tgt := 97) (pc2 := 93) op183_90 (by decide) (by decide) rfl (fun b13 => ?_) (fun b13 => ?_)
              · have gc29 := (if_pos b13).symm.trans gc29
                refine rx_ic (v := 1) (pc2 := 94) op183_93 (by decide) rfl ?_
                refine ry_go (tgt := 98) op183_94 (by decide) (by decide) ?_
                cases gc29
                exact c29 _
              · have gc29 := (if_neg b13).symm.trans gc29
                refine rx_ic (v := 0) (pc2 := 98) op183_97 (by decide) rfl ?_
                cases gc29
                exact c29 _
            · have gc29 := (if_neg b9).symm.trans gc29
              refine rx_ic (v := 1) (pc2 := 94) op183_93 (by decide) rfl ?_
              refine ry_go (tgt := 98) op183_94 (by decide) (by decide) ?_
              cases gc29
              exact c29 _
          · have gc29 := (if_neg b6).symm.trans gc29
            refine rx_ic (v := 1) (pc2 := 94) op183_93 (by decide) rfl ?_
            refine ry_go (tgt := 98) op183_94 (by decide) (by decide) ?_
            cases gc29
            exact c29 _
      · have gc33 := (if_neg b3).symm.trans gc33
        cases gc33
        exact c33 _
    · have h := (if_neg b1).symm.trans h
      cases h
      exact hr _ _ rfl _ _ _ _
set_option maxHeartbeats 4000000 in
set_option maxRecDepth 20000 in
theorem mo_cluesLetTrick_ok (xs : List Int32) {d : Nat} (hd : 0 ≤ d) {n : Nat} {a1 : Int32} {m mO : rn_Mem} {rO : Int32} (h : mo_cluesLetTrick n a1 m = some (rO, mO)) : rn_R xs d 183 0 (rn_ent 5 [.ref 115, .int a1]) [] (rn_SH, m) (some (.int rO)) (rn_SH, mO) := by
  unfold mo_cluesLetTrick at h
  show rn_R xs d 183 0 [some (.ref 115), some (.int a1), none, none, none] [] (rn_SH, m) (some (.int rO)) (rn_SH, mO)
  refine rx_ic (v := 1) (pc2 := 1) op183_0 (by decide) rfl ?_
  refine rx_s (L2 := [some (.ref 115), some (.int a1), some (.int 1), none, none]) (pc2 := 2) op183_1 rfl rfl rfl ?_
  refine rx_ic (v := 0) (pc2 := 3) op183_2 (by decide) rfl ?_
  refine rx_s (L2 := [some (.ref 115), some (.int a1), some (.int 1), some (.int 0), none]) (pc2 := 4) op183_3 rfl rfl rfl ?_
  obtain ⟨wf41, f41, h⟩ := rq_bind h
  refine mo_cluesLetTrick_l4_ok xs (fun x37 m34 eq => ?_) _ _ _ _ _  f41
  subst eq
  try dsimp only at h
  intro o35 o36 o38 o39
  refine rx_p (L2 := [o35, o36, some (.int x37), o38, o39]) (S2 := [.int x37]) (pc2 := 173) op183_172 rfl rfl ?_
  obtain ⟨k40, h⟩ := rq_chk h
  obtain ⟨rfl, rfl⟩ := rq_ret h
  exact ry_rz (x := x37) op183_173 ms_183 rfl k40
/-! mo_layTrick -/
theorem op182_0 : rn_op 182 0 = some (.aload_n 0, 1, 0, 0, 0) := by decide +kernel
theorem op182_1 : rn_op 182 1 = some (.getfield 7, 3, 11, 0, 3) := by decide +kernel
theorem op182_4 : rn_op 182 4 = some (.iconst 1, 1, 0, 0, 0) := by decide +kernel
theorem op182_5 : rn_op 182 5 = some (.iaload, 1, 0, 0, 0) := by decide +kernel
theorem op182_6 : rn_op 182 6 = some (.istore_n 2, 1, 0, 0, 0) := by decide +kernel
theorem op182_7 : rn_op 182 7 = some (.aload_n 0, 1, 0, 0, 0) := by decide +kernel
theorem op182_8 : rn_op 182 8 = some (.getfield 55, 3, 11, 28, 3) := by decide +kernel
theorem op182_11 : rn_op 182 11 = some (.bipush 24, 2, 0, 0, 0) := by decide +kernel
theorem op182_13 : rn_op 182 13 = some (.iload_n 1, 1, 0, 0, 0) := by decide +kernel
theorem op182_14 : rn_op 182 14 = some (.imul, 1, 0, 0, 0) := by decide +kernel
theorem op182_15 : rn_op 182 15 = some (.aload_n 0, 1, 0, 0, 0) := by decide +kernel
theorem op182_16 : rn_op 182 16 = some (.getfield 61, 3, 11, 30, 3) := by decide +kernel
theorem op182_19 : rn_op 182 19 = some (.iload_n 1, 1, 0, 0, 0) := by decide +kernel
theorem op182_20 : rn_op 182 20 = some (.iaload, 1, 0, 0, 0) := by decide +kernel
theorem op182_21 : rn_op 182 21 = some (.iadd, 1, 0, 0, 0) := by decide +kernel
theorem op182_22 : rn_op 182 22 = some (.iaload, 1, 0, 0, 0) := by decide +kernel
theorem op182_23 : rn_op 182 23 = some (.istore_n 3, 1, 0, 0, 0) := by decide +kernel
theorem op182_24 : rn_op 182 24 = some (.iconst 0, 1, 0, 0, 0) := by decide +kernel
theorem op182_25 : rn_op 182 25 = some (.istore 4, 2, 0, 0, 0) := by decide +kernel
theorem op182_27 : rn_op 182 27 = some (.aload_n 0, 1, 0, 0, 0) := by decide +kernel
theorem op182_28 : rn_op 182 28 = some (.getfield 52, 3, 11, 27, 3) := by decide +kernel
theorem op182_31 : rn_op 182 31 = some (.iconst 4, 1, 0, 0, 0) := by decide +kernel
theorem op182_32 : rn_op 182 32 = some (.iload_n 1, 1, 0, 0, 0) := by decide +kernel
theorem op182_33 : rn_op 182 33 = some (.imul, 1, 0, 0, 0) := by decide +kernel
theorem op182_34 : rn_op 182 34 = some (.iload_n 2, 1, 0, 0, 0) := by decide +kernel
theorem op182_35 : rn_op 182 35 = some (.iload_n 3, 1, 0, 0, 0) := by decide +kernel
theorem op182_36 : rn_op 182 36 = some (.iconst 0, 1, 0, 0, 0) := by decide +kernel
theorem op182_37 : rn_op 182 37 = some (.invokestatic 238, 3, 177, 3, 0) := by decide +kernel
theorem op182_40 : rn_op 182 40 = some (.iadd, 1, 0, 0, 0) := by decide +kernel
theorem op182_41 : rn_op 182 41 = some (.iaload, 1, 0, 0, 0) := by decide +kernel
theorem op182_42 : rn_op 182 42 = some (.invokestatic 185, 3, 162, 1, 0) := by decide +kernel
theorem op182_45 : rn_op 182 45 = some (.istore 5, 2, 0, 0, 0) := by decide +kernel
theorem op182_47 : rn_op 182 47 = some (.iconst 1, 1, 0, 0, 0) := by decide +kernel
theorem op182_48 : rn_op 182 48 = some (.istore 6, 2, 0, 0, 0) := by decide +kernel
theorem op182_50 : rn_op 182 50 = some (.iconst 0, 1, 0, 0, 0) := by decide +kernel
theorem op182_51 : rn_op 182 51 = some (.istore 7, 2, 0, 0, 0) := by decide +kernel
theorem op182_53 : rn_op 182 53 = some (.iload 7, 2, 0, 0, 0) := by decide +kernel
theorem op182_55 : rn_op 182 55 = some (.iload_n 2, 1, 0, 0, 0) := by decide +kernel
theorem op182_56 : rn_op 182 56 = some (.if_icmp .ge 236, 3, 0, 0, 0) := by decide +kernel
theorem op182_59 : rn_op 182 59 = some (.aload_n 0, 1, 0, 0, 0) := by decide +kernel
theorem op182_60 : rn_op 182 60 = some (.getfield 52, 3, 11, 27, 3) := by decide +kernel
theorem op182_63 : rn_op 182 63 = some (.iconst 4, 1, 0, 0, 0) := by decide +kernel
theorem op182_64 : rn_op 182 64 = some (.iload_n 1, 1, 0, 0, 0) := by decide +kernel
theorem op182_65 : rn_op 182 65 = some (.imul, 1, 0, 0, 0) := by decide +kernel
theorem op182_66 : rn_op 182 66 = some (.iload_n 2, 1, 0, 0, 0) := by decide +kernel
theorem op182_67 : rn_op 182 67 = some (.iload_n 3, 1, 0, 0, 0) := by decide +kernel
theorem op182_68 : rn_op 182 68 = some (.iload 7, 2, 0, 0, 0) := by decide +kernel
theorem op182_70 : rn_op 182 70 = some (.invokestatic 238, 3, 177, 3, 0) := by decide +kernel
theorem op182_73 : rn_op 182 73 = some (.iadd, 1, 0, 0, 0) := by decide +kernel
theorem op182_74 : rn_op 182 74 = some (.iaload, 1, 0, 0, 0) := by decide +kernel
theorem op182_75 : rn_op 182 75 = some (.istore 8, 2, 0, 0, 0) := by decide +kernel
theorem op182_77 : rn_op 182 77 = some (.aload_n 0, 1, 0, 0, 0) := by decide +kernel
theorem op182_78 : rn_op 182 78 = some (.getfield 49, 3, 11, 26, 3) := by decide +kernel
theorem op182_81 : rn_op 182 81 = some (.iload_n 1, 1, 0, 0, 0) := by decide +kernel
theorem op182_82 : rn_op 182 82 = some (.iaload, 1, 0, 0, 0) := by decide +kernel
theorem op182_83 : rn_op 182 83 = some (.iload 7, 2, 0, 0, 0) := by decide +kernel
theorem op182_85 : rn_op 182 85 = some (.iadd, 1, 0, 0, 0) := by decide +kernel
theorem op182_86 : rn_op 182 86 = some (.iload_n 2, 1, 0, 0, 0) := by decide +kernel
theorem op182_87 : rn_op 182 87 = some (.irem, 1, 0, 0, 0) := by decide +kernel
theorem op182_88 : rn_op 182 88 = some (.istore 9, 2, 0, 0, 0) := by decide +kernel
theorem op182_90 : rn_op 182 90 = some (.aload_n 0, 1, 0, 0, 0) := by decide +kernel
theorem op182_91 : rn_op 182 91 = some (.getfield 64, 3, 11, 31, 3) := by decide +kernel
theorem op182_94 : rn_op 182 94 = some (.iconst 4, 1, 0, 0, 0) := by decide +kernel
theorem op182_95 : rn_op 182 95 = some (.iload_n 1, 1, 0, 0, 0) := by decide +kernel
theorem op182_96 : rn_op 182 96 = some (.iconst 1, 1, 0, 0, 0) := by decide +kernel
theorem op182_97 : rn_op 182 97 = some (.iadd, 1, 0, 0, 0) := by decide +kernel
theorem op182_98 : rn_op 182 98 = some (.imul, 1, 0, 0, 0) := by decide +kernel
theorem op182_99 : rn_op 182 99 = some (.iload 9, 2, 0, 0, 0) := by decide +kernel
theorem op182_101 : rn_op 182 101 = some (.iadd, 1, 0, 0, 0) := by decide +kernel
theorem op182_102 : rn_op 182 102 = some (.iaload, 1, 0, 0, 0) := by decide +kernel
theorem op182_103 : rn_op 182 103 = some (.istore 10, 2, 0, 0, 0) := by decide +kernel
theorem op182_105 : rn_op 182 105 = some (.iload 10, 2, 0, 0, 0) := by decide +kernel
theorem op182_107 : rn_op 182 107 = some (.iload 5, 2, 0, 0, 0) := by decide +kernel
theorem op182_109 : rn_op 182 109 = some (.ishr, 1, 0, 0, 0) := by decide +kernel
theorem op182_110 : rn_op 182 110 = some (.iconst 1, 1, 0, 0, 0) := by decide +kernel
theorem op182_111 : rn_op 182 111 = some (.iand, 1, 0, 0, 0) := by decide +kernel
theorem op182_112 : rn_op 182 112 = some (.iconst 1, 1, 0, 0, 0) := by decide +kernel
theorem op182_113 : rn_op 182 113 = some (.if_icmp .ne 7, 3, 0, 0, 0) := by decide +kernel
theorem op182_116 : rn_op 182 116 = some (.iconst 1, 1, 0, 0, 0) := by decide +kernel
theorem op182_117 : rn_op 182 117 = some (.goto 4, 3, 0, 0, 0) := by decide +kernel
theorem op182_120 : rn_op 182 120 = some (.iconst 0, 1, 0, 0, 0) := by decide +kernel
theorem op182_121 : rn_op 182 121 = some (.istore 11, 2, 0, 0, 0) := by decide +kernel
theorem op182_123 : rn_op 182 123 = some (.aload_n 0, 1, 0, 0, 0) := by decide +kernel
theorem op182_124 : rn_op 182 124 = some (.getfield 206, 3, 11, 9, 0) := by decide +kernel
theorem op182_127 : rn_op 182 127 = some (.iconst 2, 1, 0, 0, 0) := by decide +kernel
theorem op182_128 : rn_op 182 128 = some (.if_icmp .ne 44, 3, 0, 0, 0) := by decide +kernel
theorem op182_131 : rn_op 182 131 = some (.aload_n 0, 1, 0, 0, 0) := by decide +kernel
theorem op182_132 : rn_op 182 132 = some (.getfield 203, 3, 11, 8, 0) := by decide +kernel
theorem op182_135 : rn_op 182 135 = some (.ifCond .lt 37, 3, 0, 0, 0) := by decide +kernel
theorem op182_138 : rn_op 182 138 = some (.iload 11, 2, 0, 0, 0) := by decide +kernel
theorem op182_140 : rn_op 182 140 = some (.ifCond .ne 32, 3, 0, 0, 0) := by decide +kernel
theorem op182_143 : rn_op 182 143 = some (.iload 8, 2, 0, 0, 0) := by decide +kernel
theorem op182_145 : rn_op 182 145 = some (.invokestatic 185, 3, 162, 1, 0) := by decide +kernel
theorem op182_148 : rn_op 182 148 = some (.aload_n 0, 1, 0, 0, 0) := by decide +kernel
theorem op182_149 : rn_op 182 149 = some (.getfield 203, 3, 11, 8, 0) := by decide +kernel
theorem op182_152 : rn_op 182 152 = some (.if_icmp .eq 20, 3, 0, 0, 0) := by decide +kernel
theorem op182_155 : rn_op 182 155 = some (.iload 10, 2, 0, 0, 0) := by decide +kernel
theorem op182_157 : rn_op 182 157 = some (.aload_n 0, 1, 0, 0, 0) := by decide +kernel
theorem op182_158 : rn_op 182 158 = some (.getfield 203, 3, 11, 8, 0) := by decide +kernel
theorem op182_161 : rn_op 182 161 = some (.ishr, 1, 0, 0, 0) := by decide +kernel
theorem op182_162 : rn_op 182 162 = some (.iconst 1, 1, 0, 0, 0) := by decide +kernel
theorem op182_163 : rn_op 182 163 = some (.iand, 1, 0, 0, 0) := by decide +kernel
theorem op182_164 : rn_op 182 164 = some (.iconst 1, 1, 0, 0, 0) := by decide +kernel
theorem op182_165 : rn_op 182 165 = some (.if_icmp .ne 7, 3, 0, 0, 0) := by decide +kernel
theorem op182_168 : rn_op 182 168 = some (.iconst 1, 1, 0, 0, 0) := by decide +kernel
theorem op182_169 : rn_op 182 169 = some (.goto 4, 3, 0, 0, 0) := by decide +kernel
theorem op182_172 : rn_op 182 172 = some (.iconst 0, 1, 0, 0, 0) := by decide +kernel
theorem op182_173 : rn_op 182 173 = some (.istore 12, 2, 0, 0, 0) := by decide +kernel
theorem op182_175 : rn_op 182 175 = some (.iload 7, 2, 0, 0, 0) := by decide +kernel
theorem op182_177 : rn_op 182 177 = some (.ifCond .le 35, 3, 0, 0, 0) := by decide +kernel
theorem op182_180 : rn_op 182 180 = some (.aload_n 0, 1, 0, 0, 0) := by decide +kernel
theorem op182_181 : rn_op 182 181 = some (.getfield 206, 3, 11, 9, 0) := by decide +kernel
theorem op182_184 : rn_op 182 184 = some (.iconst 1, 1, 0, 0, 0) := by decide +kernel
theorem op182_185 : rn_op 182 185 = some (.if_icmp .eq 27, 3, 0, 0, 0) := by decide +kernel
theorem op182_188 : rn_op 182 188 = some (.iload 8, 2, 0, 0, 0) := by decide +kernel
theorem op182_190 : rn_op 182 190 = some (.invokestatic 185, 3, 162, 1, 0) := by decide +kernel
theorem op182_193 : rn_op 182 193 = some (.iload 5, 2, 0, 0, 0) := by decide +kernel
theorem op182_195 : rn_op 182 195 = some (.if_icmp .eq 17, 3, 0, 0, 0) := by decide +kernel
theorem op182_198 : rn_op 182 198 = some (.iload 11, 2, 0, 0, 0) := by decide +kernel
theorem op182_200 : rn_op 182 200 = some (.ifCond .ne 8, 3, 0, 0, 0) := by decide +kernel
theorem op182_203 : rn_op 182 203 = some (.iload 12, 2, 0, 0, 0) := by decide +kernel
theorem op182_205 : rn_op 182 205 = some (.ifCond .eq 7, 3, 0, 0, 0) := by decide +kernel
theorem op182_208 : rn_op 182 208 = some (.iconst 1, 1, 0, 0, 0) := by decide +kernel
theorem op182_209 : rn_op 182 209 = some (.goto 4, 3, 0, 0, 0) := by decide +kernel
theorem op182_212 : rn_op 182 212 = some (.iconst 0, 1, 0, 0, 0) := by decide +kernel
theorem op182_213 : rn_op 182 213 = some (.istore 13, 2, 0, 0, 0) := by decide +kernel
theorem op182_215 : rn_op 182 215 = some (.iload 4, 2, 0, 0, 0) := by decide +kernel
theorem op182_217 : rn_op 182 217 = some (.iload 13, 2, 0, 0, 0) := by decide +kernel
theorem op182_219 : rn_op 182 219 = some (.ifCond .eq 7, 3, 0, 0, 0) := by decide +kernel
theorem op182_222 : rn_op 182 222 = some (.iconst 1, 1, 0, 0, 0) := by decide +kernel
theorem op182_223 : rn_op 182 223 = some (.goto 4, 3, 0, 0, 0) := by decide +kernel
theorem op182_226 : rn_op 182 226 = some (.iconst 0, 1, 0, 0, 0) := by decide +kernel
theorem op182_227 : rn_op 182 227 = some (.iadd, 1, 0, 0, 0) := by decide +kernel
theorem op182_228 : rn_op 182 228 = some (.istore 4, 2, 0, 0, 0) := by decide +kernel
theorem op182_230 : rn_op 182 230 = some (.iload 6, 2, 0, 0, 0) := by decide +kernel
theorem op182_232 : rn_op 182 232 = some (.ifCond .eq 21, 3, 0, 0, 0) := by decide +kernel
theorem op182_235 : rn_op 182 235 = some (.iload 13, 2, 0, 0, 0) := by decide +kernel
theorem op182_237 : rn_op 182 237 = some (.ifCond .eq 12, 3, 0, 0, 0) := by decide +kernel
theorem op182_240 : rn_op 182 240 = some (.iload 9, 2, 0, 0, 0) := by decide +kernel
theorem op182_242 : rn_op 182 242 = some (.aload_n 0, 1, 0, 0, 0) := by decide +kernel
theorem op182_243 : rn_op 182 243 = some (.getfield 216, 3, 11, 12, 0) := by decide +kernel
theorem op182_246 : rn_op 182 246 = some (.if_icmp .eq 7, 3, 0, 0, 0) := by decide +kernel
theorem op182_249 : rn_op 182 249 = some (.iconst 1, 1, 0, 0, 0) := by decide +kernel
theorem op182_250 : rn_op 182 250 = some (.goto 4, 3, 0, 0, 0) := by decide +kernel
theorem op182_253 : rn_op 182 253 = some (.iconst 0, 1, 0, 0, 0) := by decide +kernel
theorem op182_254 : rn_op 182 254 = some (.istore 6, 2, 0, 0, 0) := by decide +kernel
theorem op182_256 : rn_op 182 256 = some (.aload_n 0, 1, 0, 0, 0) := by decide +kernel
theorem op182_257 : rn_op 182 257 = some (.getfield 64, 3, 11, 31, 3) := by decide +kernel
theorem op182_260 : rn_op 182 260 = some (.iconst 4, 1, 0, 0, 0) := by decide +kernel
theorem op182_261 : rn_op 182 261 = some (.iload_n 1, 1, 0, 0, 0) := by decide +kernel
theorem op182_262 : rn_op 182 262 = some (.imul, 1, 0, 0, 0) := by decide +kernel
theorem op182_263 : rn_op 182 263 = some (.iload 9, 2, 0, 0, 0) := by decide +kernel
theorem op182_265 : rn_op 182 265 = some (.iadd, 1, 0, 0, 0) := by decide +kernel
theorem op182_266 : rn_op 182 266 = some (.iload 10, 2, 0, 0, 0) := by decide +kernel
theorem op182_268 : rn_op 182 268 = some (.iconst 1, 1, 0, 0, 0) := by decide +kernel
theorem op182_269 : rn_op 182 269 = some (.iload 8, 2, 0, 0, 0) := by decide +kernel
theorem op182_271 : rn_op 182 271 = some (.invokestatic 185, 3, 162, 1, 0) := by decide +kernel
theorem op182_274 : rn_op 182 274 = some (.ishl, 1, 0, 0, 0) := by decide +kernel
theorem op182_275 : rn_op 182 275 = some (.ior, 1, 0, 0, 0) := by decide +kernel
theorem op182_276 : rn_op 182 276 = some (.iastore, 1, 0, 0, 0) := by decide +kernel
theorem op182_277 : rn_op 182 277 = some (.aload_n 0, 1, 0, 0, 0) := by decide +kernel
theorem op182_278 : rn_op 182 278 = some (.getfield 70, 3, 11, 33, 3) := by decide +kernel
theorem op182_281 : rn_op 182 281 = some (.iload 8, 2, 0, 0, 0) := by decide +kernel
theorem op182_283 : rn_op 182 283 = some (.iload 9, 2, 0, 0, 0) := by decide +kernel
theorem op182_285 : rn_op 182 285 = some (.iastore, 1, 0, 0, 0) := by decide +kernel
theorem op182_286 : rn_op 182 286 = some (.iinc 7 1, 3, 0, 0, 0) := by decide +kernel
theorem op182_289 : rn_op 182 289 = some (.goto (-236), 3, 0, 0, 0) := by decide +kernel
theorem op182_292 : rn_op 182 292 = some (.aload_n 0, 1, 0, 0, 0) := by decide +kernel
theorem op182_293 : rn_op 182 293 = some (.getfield 67, 3, 11, 32, 3) := by decide +kernel
theorem op182_296 : rn_op 182 296 = some (.iload_n 1, 1, 0, 0, 0) := by decide +kernel
theorem op182_297 : rn_op 182 297 = some (.aload_n 0, 1, 0, 0, 0) := by decide +kernel
theorem op182_298 : rn_op 182 298 = some (.getfield 67, 3, 11, 32, 3) := by decide +kernel
theorem op182_301 : rn_op 182 301 = some (.iload_n 1, 1, 0, 0, 0) := by decide +kernel
theorem op182_302 : rn_op 182 302 = some (.iconst 1, 1, 0, 0, 0) := by decide +kernel
theorem op182_303 : rn_op 182 303 = some (.iadd, 1, 0, 0, 0) := by decide +kernel
theorem op182_304 : rn_op 182 304 = some (.iaload, 1, 0, 0, 0) := by decide +kernel
theorem op182_305 : rn_op 182 305 = some (.iload 4, 2, 0, 0, 0) := by decide +kernel
theorem op182_307 : rn_op 182 307 = some (.iadd, 1, 0, 0, 0) := by decide +kernel
theorem op182_308 : rn_op 182 308 = some (.iastore, 1, 0, 0, 0) := by decide +kernel
theorem op182_309 : rn_op 182 309 = some (.aload_n 0, 1, 0, 0, 0) := by decide +kernel
theorem op182_310 : rn_op 182 310 = some (.getfield 212, 3, 11, 11, 2) := by decide +kernel
theorem op182_313 : rn_op 182 313 = some (.ifCond .eq 36, 3, 0, 0, 0) := by decide +kernel
theorem op182_316 : rn_op 182 316 = some (.iload 6, 2, 0, 0, 0) := by decide +kernel
theorem op182_318 : rn_op 182 318 = some (.ifCond .eq 27, 3, 0, 0, 0) := by decide +kernel
theorem op182_321 : rn_op 182 321 = some (.aload_n 0, 1, 0, 0, 0) := by decide +kernel
theorem op182_322 : rn_op 182 322 = some (.getfield 226, 3, 11, 15, 0) := by decide +kernel
theorem op182_325 : rn_op 182 325 = some (.ifCond .lt 16, 3, 0, 0, 0) := by decide +kernel
theorem op182_328 : rn_op 182 328 = some (.aload_n 0, 1, 0, 0, 0) := by decide +kernel
theorem op182_329 : rn_op 182 329 = some (.getfield 67, 3, 11, 32, 3) := by decide +kernel
theorem op182_332 : rn_op 182 332 = some (.iload_n 1, 1, 0, 0, 0) := by decide +kernel
theorem op182_333 : rn_op 182 333 = some (.iaload, 1, 0, 0, 0) := by decide +kernel
theorem op182_334 : rn_op 182 334 = some (.aload_n 0, 1, 0, 0, 0) := by decide +kernel
theorem op182_335 : rn_op 182 335 = some (.getfield 226, 3, 11, 15, 0) := by decide +kernel
theorem op182_338 : rn_op 182 338 = some (.if_icmp .ge 7, 3, 0, 0, 0) := by decide +kernel
theorem op182_341 : rn_op 182 341 = some (.iconst 1, 1, 0, 0, 0) := by decide +kernel
theorem op182_342 : rn_op 182 342 = some (.goto 17, 3, 0, 0, 0) := by decide +kernel
theorem op182_345 : rn_op 182 345 = some (.iconst 0, 1, 0, 0, 0) := by decide +kernel
theorem op182_346 : rn_op 182 346 = some (.goto 13, 3, 0, 0, 0) := by decide +kernel
theorem op182_349 : rn_op 182 349 = some (.iload 4, 2, 0, 0, 0) := by decide +kernel
theorem op182_351 : rn_op 182 351 = some (.ifCond .ne 7, 3, 0, 0, 0) := by decide +kernel
theorem op182_354 : rn_op 182 354 = some (.iconst 1, 1, 0, 0, 0) := by decide +kernel
theorem op182_355 : rn_op 182 355 = some (.goto 4, 3, 0, 0, 0) := by decide +kernel
theorem op182_358 : rn_op 182 358 = some (.iconst 0, 1, 0, 0, 0) := by decide +kernel
theorem op182_359 : rn_op 182 359 = some (.istore 7, 2, 0, 0, 0) := by decide +kernel
theorem op182_361 : rn_op 182 361 = some (.iload 7, 2, 0, 0, 0) := by decide +kernel
theorem op182_363 : rn_op 182 363 = some (.ifCond .eq 15, 3, 0, 0, 0) := by decide +kernel
theorem op182_366 : rn_op 182 366 = some (.aload_n 0, 1, 0, 0, 0) := by decide +kernel
theorem op182_367 : rn_op 182 367 = some (.iload_n 1, 1, 0, 0, 0) := by decide +kernel
theorem op182_368 : rn_op 182 368 = some (.invokevirtual 260, 3, 183, 2, 11) := by decide +kernel
theorem op182_371 : rn_op 182 371 = some (.ifCond .eq 7, 3, 0, 0, 0) := by decide +kernel
theorem op182_374 : rn_op 182 374 = some (.iconst 1, 1, 0, 0, 0) := by decide +kernel
theorem op182_375 : rn_op 182 375 = some (.goto 4, 3, 0, 0, 0) := by decide +kernel
theorem op182_378 : rn_op 182 378 = some (.iconst 0, 1, 0, 0, 0) := by decide +kernel
theorem op182_379 : rn_op 182 379 = some (.ireturn, 1, 0, 0, 0) := by decide +kernel
def mo_layTrick_l53 (a1 : Int32) (a2 : Int32) (a3 : Int32) (a5 : Int32) : Nat → Int32 → Int32 → Int32 → rn_Mem → Option (Int32 × Int32 × rn_Mem)
  | 0, _, _, _, _ => none
  | n + 1, a4, a6, a7, m =>
    if a7 < a2 then
      (mo_ordered n a2 a3 a7 m).bind fun (r14, m13) =>
      if rn_in (((4 : Int32) * a1) + r14) 16 = true then
        (some (m13.1 130 (((4 : Int32) * a1) + r14).toNatClampNeg)).bind fun (x17 : Int32) =>
        if rn_in a1 4 = true then
          if ¬ a2 = 0 then
            (some (rn_rem ((m13.1 129 a1.toNatClampNeg) + a7) a2)).bind fun (x20 : Int32) =>
            if rn_in (((4 : Int32) * (a1 + 1)) + x20) 20 = true then
              (some (m13.1 134 (((4 : Int32) * (a1 + 1)) + x20).toNatClampNeg)).bind fun (x22 : Int32) =>
              (show Option (Int32) from
                if ((x22 >>> (a5 &&& 31)) &&& 1) = 1 then
                  some (1)
                else
                  some (0)).bind fun x27 =>
              (show Option (Int32 × rn_Mem) from
                if (m13.1 115 9) = 2 then
                  if (m13.1 115 8) < 0 then
                    some (0, m13)
                  else
                    if x27 = 0 then
                      (mo_suitOf n x17 m13).bind fun (r32, m31) =>
                      if r32 = (m31.1 115 8) then
                        some (0, m31)
                      else
                        if ((x22 >>> ((m31.1 115 8) &&& 31)) &&& 1) = 1 then
                          some (1, m31)
                        else
                          some (0, m31)
                    else
                      some (0, m13)
                else
                  some (0, m13)).bind fun (x38, m39) =>
              (show Option (Int32 × rn_Mem) from
                if 0 < a7 then
                  if (m39.1 115 9) = 1 then
                    some (0, m39)
                  else
                    (mo_suitOf n x17 m39).bind fun (r43, m42) =>
                    if r43 = a5 then
                      some (0, m42)
                    else
                      if x27 = 0 then
                        if x38 = 0 then
                          some (0, m42)
                        else
                          some (1, m42)
                      else
                        some (1, m42)
                else
                  some (0, m39)).bind fun (x51, m52) =>
              (show Option (Int32) from
                if x51 = 0 then
                  some (0)
                else
                  some (1)).bind fun x58 =>
              (some (a4 + x58)).bind fun (x59 : Int32) =>
              (show Option (Int32) from
                if a6 = 0 then
                  some (0)
                else
                  if x51 = 0 then
                    some (1)
                  else
                    if x20 = (m52.1 115 12) then
                      some (0)
                    else
                      some (1)).bind fun x67 =>
              (mo_suitOf n x17 m52).bind fun (r69, m68) =>
              if rn_in (((4 : Int32) * a1) + x20) 20 = true then
                (some (rm_i m68 134 (((4 : Int32) * a1) + x20).toNatClampNeg (x22 ||| ((1 : Int32) <<< (r69 &&& 31))))).bind fun (m71 : rn_Mem) =>
                if rn_in x17 16 = true then
                  (some (rm_i m71 136 x17.toNatClampNeg x20)).bind fun (m73 : rn_Mem) =>
                  (some (a7 + 1)).bind fun (x75 : Int32) =>
                  mo_layTrick_l53 a1 a2 a3 a5 n x59 x67 x75 m73
                else none
              else none
            else none
          else none
        else none
      else none
    else
      some (a4, a6, m)
def mo_layTrick (n : Nat) (a1 : Int32) (m : rn_Mem) : Option (Int32 × rn_Mem) :=
  (some (m.1 116 1)).bind fun (x1 : Int32) =>
  if rn_in a1 4 = true then
    if rn_in (((24 : Int32) * a1) + (m.1 133 a1.toNatClampNeg)) 96 = true then
      (some (m.1 131 (((24 : Int32) * a1) + (m.1 133 a1.toNatClampNeg)).toNatClampNeg)).bind fun (x4 : Int32) =>
      (mo_ordered n x1 x4 0 m).bind fun (r6, m5) =>
      if rn_in (((4 : Int32) * a1) + r6) 16 = true then
        (mo_suitOf n (m5.1 130 (((4 : Int32) * a1) + r6).toNatClampNeg) m5).bind fun (r10, m9) =>
        (mo_layTrick_l53 a1 x1 x4 r10 n 0 1 0 m9).bind fun (x84, x86, m81) =>
        if rn_in (a1 + 1) 5 = true then
          if rn_in a1 5 = true then
            (some (rm_i m81 135 a1.toNatClampNeg ((m81.1 135 (a1 + 1).toNatClampNeg) + x84))).bind fun (m95 : rn_Mem) =>
            (show Option (Int32) from
              if (m95.1 115 11) = 0 then
                if x84 = 0 then
                  some (1)
                else
                  some (0)
              else
                if x86 = 0 then
                  some (0)
                else
                  if (m95.1 115 15) < 0 then
                    some (1)
                  else
                    if rn_in a1 5 = true then
                      if (m95.1 135 a1.toNatClampNeg) < (m95.1 115 15) then
                        some (1)
                      else
                        some (0)
                    else none).bind fun x115 =>
            if x115 = 0 then
              some (0, m95)
            else
              (mo_cluesLetTrick n a1 m95).bind fun (r119, m118) =>
              if r119 = 0 then
                some (0, m118)
              else
                some (1, m118)
          else none
        else none
      else none
    else none
  else none
set_option maxHeartbeats 4000000 in
set_option maxRecDepth 20000 in
theorem mo_layTrick_l53_ok (xs : List Int32) {d : Nat} (hd : 1 ≤ d + 1) {a1 : Int32} {a2 : Int32} {a3 : Int32} {a5 : Int32} {r : Option Value} {τ : rn_H} {out : Int32 × Int32 × rn_Mem} (hr : ∀ (z4 : Int32) (z6 : Int32) (mO : rn_Mem), out = (z4, z6, mO) → ∀ (o2 o3 o5 o7 o8 o9 o10 o11 o12 o13 : Option Value), rn_R xs (d + 1) 182 292 [some (.ref 115), some (.int a1), o2, o3, some (.int z4), o5, some (.int z6), o7, o8, o9, o10, o11, o12, o13] [] (rn_SH, mO) r τ) : ∀ (n : Nat) (a4 : Int32) (a6 : Int32) (a7 : Int32) (o8 o9 o10 o11 o12 o13 : Option Value) (m : rn_Mem), mo_layTrick_l53 a1 a2 a3 a5 n a4 a6 a7 m = some out → rn_R xs (d + 1) 182 53 [some (.ref 115), some (.int a1), some (.int a2), some (.int a3), some (.int a4), some (.int a5), some (.int a6), some (.int a7), o8, o9, o10, o11, o12, o13] [] (rn_SH, m) r τ := by
  intro n
  induction n with
  | zero =>
    intro _ _ _ _ _ _ _ _ _ _ h
    cases h
  | succ n ih =>
    intro a4 a6 a7 o8 o9 o10 o11 o12 o13 m h
    unfold mo_layTrick_l53 at h
    try dsimp only at h
    refine rx_p (L2 := [some (.ref 115), some (.int a1), some (.int a2), some (.int a3), some (.int a4), some (.int a5), some (.int a6), some (.int a7), o8, o9, o10, o11, o12, o13]) (S2 := [.int a7]) (pc2 := 55) op182_53 rfl rfl ?_
    refine rx_p (L2 := [some (.ref 115), some (.int a1), some (.int a2), some (.int a3), some (.int a4), some (.int a5), some (.int a6), some (.int a7), o8, o9, o10, o11, o12, o13]) (S2 := [.int a2, .int a7]) (pc2 := 56) op182_55 rfl rfl ?_
    refine ry_ic_ge (tgt := 292) (pc2 := 59) op182_56 (by decide) (by decide) rfl (fun b12 => ?_) (fun b12 => ?_)
    · have h := (if_pos b12).symm.trans h
      refine rx_p (L2 := [some (.ref 115), some (.int a1), some (.int a2), some (.int a3), some (.int a4), some (.int a5), some (.int a6), some (.int a7), o8, o9, o10, o11, o12, o13]) (S2 := [.ref 115]) (pc2 := 60) op182_59 rfl rfl ?_
      refine rx_gf (v := .ref 130) (pc2 := 63) op182_60 sp_115 rfl rfl rfl ?_
      refine rx_ic (v := 4) (pc2 := 64) op182_63 (by decide) rfl ?_
      refine rx_p (L2 := [some (.ref 115), some (.int a1), some (.int a2), some (.int a3), some (.int a4), some (.int a5), some (.int a6), some (.int a7), o8, o9, o10, o11, o12, o13]) (S2 := [.int a1, .int 4, .ref 130]) (pc2 := 65) op182_64 rfl rfl ?_
      refine rx_p (L2 := [some (.ref 115), some (.int a1), some (.int a2), some (.int a3), some (.int a4), some (.int a5), some (.int a6), some (.int a7), o8, o9, o10, o11, o12, o13]) (S2 := [.int ((4 : Int32) * a1), .ref 130]) (pc2 := 66) op182_65 rfl rfl ?_
      refine rx_p (L2 := [some (.ref 115), some (.int a1), some (.int a2), some (.int a3), some (.int a4), some (.int a5), some (.int a6), some (.int a7), o8, o9, o10, o11, o12, o13]) (S2 := [.int a2, .int ((4 : Int32) * a1), .ref 130]) (pc2 := 67) op182_66 rfl rfl ?_
      refine rx_p (L2 := [some (.ref 115), some (.int a1), some (.int a2), some (.int a3), some (.int a4), some (.int a5), some (.int a6), some (.int a7), o8, o9, o10, o11, o12, o13]) (S2 := [.int a3, .int a2, .int ((4 : Int32) * a1), .ref 130]) (pc2 := 68) op182_67 rfl rfl ?_
      refine rx_p (L2 := [some (.ref 115), some (.int a1), some (.int a2), some (.int a3), some (.int a4), some (.int a5), some (.int a6), some (.int a7), o8, o9, o10, o11, o12, o13]) (S2 := [.int a7, .int a3, .int a2, .int ((4 : Int32) * a1), .ref 130]) (pc2 := 70) op182_68 rfl rfl ?_
      obtain ⟨⟨r14, m13⟩, f15, h⟩ := rq_bind h
      try dsimp only at h
      refine ry_is (vs := [.int a2, .int a3, .int a7]) (T := [.int ((4 : Int32) * a1), .ref 130]) (pc2 := 73) op182_70 (by decide) ms_177 (by decide) rfl rfl (Nat.le_of_ble_eq_true rfl) (Nat.le_of_ble_eq_true rfl) (mo_ordered_ok xs (by omega)  f15) rfl ?_
      show rn_R _ _ _ _ _ [.int r14, .int ((4 : Int32) * a1), .ref 130] _ _ _
      refine rx_p (L2 := [some (.ref 115), some (.int a1), some (.int a2), some (.int a3), some (.int a4), some (.int a5), some (.int a6), some (.int a7), o8, o9, o10, o11, o12, o13]) (S2 := [.int (((4 : Int32) * a1) + r14), .ref 130]) (pc2 := 74) op182_73 rfl rfl ?_
      obtain ⟨k16, h⟩ := rq_chk h
      refine rx_ia (pc2 := 75) op182_74 (rn_shlt sp_130) sp_130 k16 rfl rfl ?_
      obtain ⟨x17, ex17, h⟩ := rq_bv h
      refine rx_s (v := x17) (L2 := [some (.ref 115), some (.int a1), some (.int a2), some (.int a3), some (.int a4), some (.int a5), some (.int a6), some (.int a7), some (.int x17), o9, o10, o11, o12, o13]) (pc2 := 77) op182_75 ex17 rfl rfl ?_
      refine rx_p (L2 := [some (.ref 115), some (.int a1), some (.int a2), some (.int a3), some (.int a4), some (.int a5), some (.int a6), some (.int a7), some (.int x17), o9, o10, o11, o12, o13]) (S2 := [.ref 115]) (pc2 := 78) op182_77 rfl rfl ?_
      refine rx_gf (v := .ref 129) (pc2 := 81) op182_78 sp_115 rfl rfl rfl ?_
      refine rx_p (L2 := [some (.ref 115), some (.int a1), some (.int a2), some (.int a3), some (.int a4), some (.int a5), some (.int a6), some (.int a7), some (.int x17), o9, o10, o11, o12, o13]) (S2 := [.int a1, .ref 129]) (pc2 := 82) op182_81 rfl rfl ?_
      obtain ⟨k18, h⟩ := rq_chk h
      refine rx_ia (pc2 := 83) op182_82 (rn_shlt sp_129) sp_129 k18 rfl rfl ?_
      refine rx_p (L2 := [some (.ref 115), some (.int a1), some (.int a2), some (.int a3), some (.int a4), some (.int a5), some (.int a6), some (.int a7), some (.int x17), o9, o10, o11, o12, o13]) (S2 := [.int a7, .int (m13.1 129 a1.toNatClampNeg)]) (pc2 := 85) op182_83 rfl rfl ?_
      refine rx_p (L2 := [some (.ref 115), some (.int a1), some (.int a2), some (.int a3), some (.int a4), some (.int a5), some (.int a6), some (.int a7), some (.int x17), o9, o10, o11, o12, o13]) (S2 := [.int ((m13.1 129 a1.toNatClampNeg) + a7)]) (pc2 := 86) op182_85 rfl rfl ?_
      refine rx_p (L2 := [some (.ref 115), some (.int a1), some (.int a2), some (.int a3), some (.int a4), some (.int a5), some (.int a6), some (.int a7), some (.int x17), o9, o10, o11, o12, o13]) (S2 := [.int a2, .int ((m13.1 129 a1.toNatClampNeg) + a7)]) (pc2 := 87) op182_86 rfl rfl ?_
      obtain ⟨k19, h⟩ := rq_chk h
      refine rx_rem (v := rn_rem ((m13.1 129 a1.toNatClampNeg) + a7) a2) (pc2 := 88) op182_87 k19 rfl rfl ?_
      obtain ⟨x20, ex20, h⟩ := rq_bv h
      refine rx_s (v := x20) (L2 := [some (.ref 115), some (.int a1), some (.int a2), some (.int a3), some (.int a4), some (.int a5), some (.int a6), some (.int a7), some (.int x17), some (.int x20), o10, o11, o12, o13]) (pc2 := 90) op182_88 ex20 rfl rfl ?_
      refine rx_p (L2 := [some (.ref 115), some (.int a1), some (.int a2), some (.int a3), some (.int a4), some (.int a5), some (.int a6), some (.int a7), some (.int x17), some (.int x20), o10, o11, o12, o13]) (S2 := [.ref 115]) (pc2 := 91) op182_90 rfl rfl ?_
      refine rx_gf (v := .ref 134) (pc2 := 94) op182_91 sp_115 rfl rfl rfl ?_
      refine rx_ic (v := 4) (pc2 := 95) op182_94 (by decide) rfl ?_
      refine rx_p (L2 := [some (.ref 115), some (.int a1), some (.int a2), some (.int a3), some (.int a4), some (.int a5), some (.int a6), some (.int a7), some (.int x17), some (.int x20), o10, o11, o12, o13]) (S2 := [.int a1, .int 4, .ref 134]) (pc2 := 96) op182_95 rfl rfl ?_
      refine rx_ic (v := 1) (pc2 := 97) op182_96 (by decide) rfl ?_
      refine rx_p (L2 := [some (.ref 115), some (.int a1), some (.int a2), some (.int a3), some (.int a4), some (.int a5), some (.int a6), some (.int a7), some (.int x17), some (.int x20), o10, o11, o12, o13]) (S2 := [.int (a1 + 1), .int 4, .ref 134]) (pc2 := 98) op182_97 rfl rfl ?_
      refine rx_p (L2 := [some (.ref 115), some (.int a1), some (.int a2), some (.int a3), some (.int a4), some (.int a5), some (.int a6), some (.int a7), some (.int x17), some (.int x20), o10, o11, o12, o13]) (S2 := [.int ((4 : Int32) * (a1 + 1)), .ref 134]) (pc2 := 99) op182_98 rfl rfl ?_
      refine rx_p (L2 := [some (.ref 115), some (.int a1), some (.int a2), some (.int a3), some (.int a4), some (.int a5), some (.int a6), some (.int a7), some (.int x17), some (.int x20), o10, o11, o12, o13]) (S2 := [.int x20, .int ((4 : Int32) * (a1 + 1)), .ref 134]) (pc2 := 101) op182_99 rfl rfl ?_
      refine rx_p (L2 := [some (.ref 115), some (.int a1), some (.int a2), some (.int a3), some (.int a4), some (.int a5), some (.int a6), some (.int a7), some (.int x17), some (.int x20), o10, o11, o12, o13]) (S2 := [.int (((4 : Int32) * (a1 + 1)) + x20), .ref 134]) (pc2 := 102) op182_101 rfl rfl ?_
      obtain ⟨k21, h⟩ := rq_chk h
      refine rx_ia (pc2 := 103) op182_102 (rn_shlt sp_134) sp_134 k21 rfl rfl ?_
      obtain ⟨x22, ex22, h⟩ := rq_bv h
      refine rx_s (v := x22) (L2 := [some (.ref 115), some (.int a1), some (.int a2), some (.int a3), some (.int a4), some (.int a5), some (.int a6), some (.int a7), some (.int x17), some (.int x20), some (.int x22), o11, o12, o13]) (pc2 := 105) op182_103 ex22 rfl rfl ?_
      refine rx_p (L2 := [some (.ref 115), some (.int a1), some (.int a2), some (.int a3), some (.int a4), some (.int a5), some (.int a6), some (.int a7), some (.int x17), some (.int x20), some (.int x22), o11, o12, o13]) (S2 := [.int x22]) (pc2 := 107) op182_105 rfl rfl ?_
      refine rx_p (L2 := [some (.ref 115), some (.int a1), some (.int a2), some (.int a3), some (.int a4), some (.int a5), some (.int a6), some (.int a7), some (.int x17), some (.int x20), some (.int x22), o11, o12, o13]) (S2 := [.int a5, .int x22]) (pc2 := 109) op182_107 rfl rfl ?_
      refine rx_p (L2 := [some (.ref 115), some (.int a1), some (.int a2), some (.int a3), some (.int a4), some (.int a5), some (.int a6), some (.int a7), some (.int x17), some (.int x20), some (.int x22), o11, o12, o13]) (S2 := [.int (x22 >>> (a5 &&& 31))]) (pc2 := 110) op182_109 rfl rfl ?_
      refine rx_ic (v := 1) (pc2 := 111) op182_110 (by decide) rfl ?_
      refine rx_p (L2 := [some (.ref 115), some (.int a1), some (.int a2), some (.int a3), some (.int a4), some (.int a5), some (.int a6), some (.int a7), some (.int x17), some (.int x20), some (.int x22), o11, o12, o13]) (S2 := [.int ((x22 >>> (a5 &&& 31)) &&& 1)]) (pc2 := 112) op182_111 rfl rfl ?_
      refine rx_ic (v := 1) (pc2 := 113) op182_112 (by decide) rfl ?_
      obtain ⟨x27, gc80, h⟩ := rq_bind h
      try dsimp only at h
      have c80 : ∀ (o24 o25 o26 : Option Value), rn_R xs (d + 1) 182 121 [some (.ref 115), some (.int a1), some (.int a2), some (.int a3), some (.int a4), some (.int a5), some (.int a6), some (.int a7), some (.int x17), some (.int x20), some (.int x22), o24, o25, o26] [.int x27] (rn_SH, m13) r τ := by
        intro o24 o25 o26
        refine rx_s (L2 := [some (.ref 115), some (.int a1), some (.int a2), some (.int a3), some (.int a4), some (.int a5), some (.int a6), some (.int a7), some (.int x17), some (.int x20), some (.int x22), some (.int x27), o25, o26]) (pc2 := 123) op182_121 rfl rfl rfl ?_
        refine rx_p (L2 := [some (.ref 115), some (.int a1), some (.int a2), some (.int a3), some (.int a4), some (.int a5), some (.int a6), some (.int a7), some (.int x17), some (.int x20), some (.int x22), some (.int x27), o25, o26]) (S2 := [.ref 115]) (pc2 := 124) op182_123 rfl rfl ?_
        refine rx_gf (v := .int (m13.1 115 9)) (pc2 := 127) op182_124 sp_115 rfl rfl rfl ?_
        refine rx_ic (v := 2) (pc2 := 128) op182_127 (by decide) rfl ?_
        obtain ⟨⟨x38, m39⟩, gc79, h⟩ := rq_bind h
        try dsimp only at h
        have c79 : ∀ (o36 o37 : Option Value), rn_R xs (d + 1) 182 173 [some (.ref 115), some (.int a1), some (.int a2), some (.int a3), some (.int a4), some (.int a5), some (.int a6), some (.int a7), some (.int x17), some (.int x20), some (.int x22), some (.int x27), o36, o37] [.int x38] (rn_SH, m39) r τ := by
          intro o36 o37
          refine rx_s (L2 := [some (.ref 115), some (.int a1), some (.int a2), some (.int a3), some (.int a4), some (.int a5), some (.int a6), some (.int a7), some (.int x17), some (.int x20), some (.int x22), some (.int x27), some (.int x38), o37]) (pc2 := 175) op182_173 rfl rfl rfl ?_
          refine rx_p (L2 := [some (.ref 115), some (.int a1), some (.int a2), some (.int a3), some (.int a4), some (.int a5), some (.int a6), some (.int a7), some (.int x17), some (.int x20), some (.int x22), some (.int x27), some (.int x38), o37]) (S2 := [.int a7]) (pc2 := 177) op182_175 rfl rfl ?_
          obtain ⟨⟨x51, m52⟩, gc78, h⟩ := rq_bind h
          try dsimp only at h
          have c78 : ∀ (o48 o49 o50 : Option Value), rn_R xs (d + 1) 182 213 [some (.ref 115), some (.int a1), some (.int a2), some (.int a3), some (.int a4), some (.int a5), some (.int a6), some (.int a7), some (.int x17), some (.int x20), some (.int x22), o48, o49, o50] [.int x51] (rn_SH, m52) r τ := by
            intro o48 o49 o50
            refine rx_sd (v := x51) (j := 12) (pc2 := 215) op182_213 rfl rfl (Nat.le_of_ble_eq_true rfl) rfl (fun o53 => ?_)
            show rn_R _ _ _ _ [some (.ref 115), some (.int a1), some (.int a2), some (.int a3), some (.int a4), some (.int a5), some (.int a6), some (.int a7), some (.int x17), some (.int x20), some (.int x22), o48, o53, some (.int x51)] _ _ _ _
            refine rx_p (L2 := [some (.ref 115), some (.int a1), some (.int a2), some (.int a3), some (.int a4), some (.int a5), some (.int a6), some (.int a7), some (.int x17), some (.int x20), some (.int x22), o48, o53, some (.int x51)]) (S2 := [.int a4]) (pc2 := 217) op182_215 rfl rfl ?_
            refine rx_p (L2 := [some (.ref 115), some (.int a1), some (.int a2), some (.int a3), some (.int a4), some (.int a5), some (.int a6), some (.int a7), some (.int x17), some (.int x20), some (.int x22), o48, o53, some (.int x51)]) (S2 := [.int x51, .int a4]) (pc2 := 219) op182_217 rfl rfl ?_
            obtain ⟨x58, gc77, h⟩ := rq_bind h
            try dsimp only at h
            have c77 : ∀ (o55 o56 o57 : Option Value), rn_R xs (d + 1) 182 227 [some (.ref 115), some (.int a1), some (.int a2), some (.int a3), o55, some (.int a5), some (.int a6), some (.int a7), some (.int x17), some (.int x20), some (.int x22), o56, o57, some (.int x51)] [.int x58, .int a4] (rn_SH, m52) r τ := by
              intro o55 o56 o57
              refine rx_p (L2 := [some (.ref 115), some (.int a1), some (.int a2), some (.int a3), o55, some (.int a5), some (.int a6), some (.int a7), some (.int x17), some (.int x20), some (.int x22), o56, o57, some (.int x51)]) (S2 := [.int (a4 + x58)]) (pc2 := 228) op182_227 rfl rfl ?_
              obtain ⟨x59, ex59, h⟩ := rq_bv h
              refine rx_s (v := x59) (L2 := [some (.ref 115), some (.int a1), some (.int a2), some (.int a3), some (.int x59), some (.int a5), some (.int a6), some (.int a7), some (.int x17), some (.int x20), some (.int x22), o56, o57, some (.int x51)]) (pc2 := 230) op182_228 ex59 rfl rfl ?_
              refine rx_p (L2 := [some (.ref 115), some (.int a1), some (.int a2), some (.int a3), some (.int x59), some (.int a5), some (.int a6), some (.int a7), some (.int x17), some (.int x20), some (.int x22), o56, o57, some (.int x51)]) (S2 := [.int a6]) (pc2 := 232) op182_230 rfl rfl ?_
              obtain ⟨x67, gc76, h⟩ := rq_bind h
              try dsimp only at h
              have c76 : ∀ (o63 o64 o65 o66 : Option Value), rn_R xs (d + 1) 182 254 [some (.ref 115), some (.int a1), some (.int a2), some (.int a3), some (.int x59), some (.int a5), o63, some (.int a7), some (.int x17), some (.int x20), some (.int x22), o64, o65, o66] [.int x67] (rn_SH, m52) r τ := by
                intro o63 o64 o65 o66
                refine rx_s (L2 := [some (.ref 115), some (.int a1), some (.int a2), some (.int a3), some (.int x59), some (.int a5), some (.int x67), some (.int a7), some (.int x17), some (.int x20), some (.int x22), o64, o65, o66]) (pc2 := 256) op182_254 rfl rfl rfl ?_
                refine rx_p (L2 := [some (.ref 115), some (.int a1), some (.int a2), some (.int a3), some (.int x59), some (.int a5), some (.int x67), some (.int a7), some (.int x17), some (.int x20), some (.int x22), o64, o65, o66]) (S2 := [.ref 115]) (pc2 := 257) op182_256 rfl rfl ?_
                refine rx_gf (v := .ref 134) (pc2 := 260) op182_257 sp_115 rfl rfl rfl ?_
                refine rx_ic (v := 4) (pc2 := 261) op182_260 (by decide) rfl ?_
                refine rx_p (L2 := [some (.ref 115), some (.int a1), some (.int a2), some (.int a3), some (.int x59), some (.int a5), some (.int x67), some (.int a7), some (.int x17), some (.int x20), some (.int x22), o64, o65, o66]) (S2 := [.int a1, .int 4, .ref 134]) (pc2 := 262) op182_261 rfl rfl ?_
                refine rx_p (L2 := [some (.ref 115), some (.int a1), some (.int a2), some (.int a3), some (.int x59), some (.int a5), some (.int x67), some (.int a7), some (.int x17), some (.int x20), some (.int x22), o64, o65, o66]) (S2 := [.int ((4 : Int32) * a1), .ref 134]) (pc2 := 263) op182_262 rfl rfl ?_
                refine rx_p (L2 := [some (.ref 115), some (.int a1), some (.int a2), some (.int a3), some (.int x59), some (.int a5), some (.int x67), some (.int a7), some (.int x17), some (.int x20), some (.int x22), o64, o65, o66]) (S2 := [.int x20, .int ((4 : Int32) * a1), .ref 134]) (pc2 := 265) op182_263 rfl rfl ?_
                refine rx_p (L2 := [some (.ref 115), some (.int a1), some (.int a2), some (.int a3), some (.int x59), some (.int a5), some (.int x67), some (.int a7), some (.int x17), some (.int x20), some (.int x22), o64, o65, o66]) (S2 := [.int (((4 : Int32) * a1) + x20), .ref 134]) (pc2 := 266) op182_265 rfl rfl ?_
                refine rx_p (L2 := [some (.ref 115), some (.int a1), some (.int a2), some (.int a3), some (.int x59), some (.int a5), some (.int x67), some (.int a7), some (.int x17), some (.int x20), some (.int x22), o64, o65, o66]) (S2 := [.int x22, .int (((4 : Int32) * a1) + x20), .ref 134]) (pc2 := 268) op182_266 rfl rfl ?_
                refine rx_ic (v := 1) (pc2 := 269) op182_268 (by decide) rfl ?_
                refine rx_p (L2 := [some (.ref 115), some (.int a1), some (.int a2), some (.int a3), some (.int x59), some (.int a5), some (.int x67), some (.int a7), some (.int x17), some (.int x20), some (.int x22), o64, o65, o66]) (S2 := [.int x17, .int 1, .int x22, .int (((4 : Int32) * a1) + x20), .ref 134]) (pc2 := 271) op182_269 rfl rfl ?_
                obtain ⟨⟨r69, m68⟩, f70, h⟩ := rq_bind h
                try dsimp only at h
                refine ry_is (vs := [.int x17]) (T := [.int 1, .int x22, .int (((4 : Int32) * a1) + x20), .ref 134]) (pc2 := 274) op182_271 (by decide) ms_162 (by decide) rfl rfl (Nat.le_of_ble_eq_true rfl) (Nat.le_of_ble_eq_true rfl) (mo_suitOf_ok xs (by omega)  f70) rfl ?_
                show rn_R _ _ _ _ _ [.int r69, .int 1, .int x22, .int (((4 : Int32) * a1) + x20), .ref 134] _ _ _
                refine rx_p (L2 := [some (.ref 115), some (.int a1), some (.int a2), some (.int a3), some (.int x59), some (.int a5), some (.int x67), some (.int a7), some (.int x17), some (.int x20), some (.int x22), o64, o65, o66]) (S2 := [.int ((1 : Int32) <<< (r69 &&& 31)), .int x22, .int (((4 : Int32) * a1) + x20), .ref 134]) (pc2 := 275) op182_274 rfl rfl ?_
                refine rx_p (L2 := [some (.ref 115), some (.int a1), some (.int a2), some (.int a3), some (.int x59), some (.int a5), some (.int x67), some (.int a7), some (.int x17), some (.int x20), some (.int x22), o64, o65, o66]) (S2 := [.int (x22 ||| ((1 : Int32) <<< (r69 &&& 31))), .int (((4 : Int32) * a1) + x20), .ref 134]) (pc2 := 276) op182_275 rfl rfl ?_
                obtain ⟨k72, h⟩ := rq_chk h
                obtain ⟨m71, em71, h⟩ := rq_bv h
                refine rx_is (m2 := m71) (pc2 := 277) op182_276 sp_134 k72 rfl em71 rfl ?_
                refine rx_p (L2 := [some (.ref 115), some (.int a1), some (.int a2), some (.int a3), some (.int x59), some (.int a5), some (.int x67), some (.int a7), some (.int x17), some (.int x20), some (.int x22), o64, o65, o66]) (S2 := [.ref 115]) (pc2 := 278) op182_277 rfl rfl ?_
                refine rx_gf (v := .ref 136) (pc2 := 281) op182_278 sp_115 rfl rfl rfl ?_
                refine rx_p (L2 := [some (.ref 115), some (.int a1), some (.int a2), some (.int a3), some (.int x59), some (.int a5), some (.int x67), some (.int a7), some (.int x17), some (.int x20), some (.int x22), o64, o65, o66]) (S2 := [.int x17, .ref 136]) (pc2 := 283) op182_281 rfl rfl ?_
                refine rx_p (L2 := [some (.ref 115), some (.int a1), some (.int a2), some (.int a3), some (.int x59), some (.int a5), some (.int x67), some (.int a7), some (.int x17), some (.int x20), some (.int x22), o64, o65, o66]) (S2 := [.int x20, .int x17, .ref 136]) (pc2 := 285) op182_283 rfl rfl ?_
                obtain ⟨k74, h⟩ := rq_chk h
                obtain ⟨m73, em73, h⟩ := rq_bv h
                refine rx_is (m2 := m73) (pc2 := 286) op182_285 sp_136 k74 rfl em73 rfl ?_
                obtain ⟨x75, ex75, h⟩ := rq_bv h
                refine rx_inc (w := 1) (v := x75) (L2 := [some (.ref 115), some (.int a1), some (.int a2), some (.int a3), some (.int x59), some (.int a5), some (.int x67), some (.int x75), some (.int x17), some (.int x20), some (.int x22), o64, o65, o66]) (pc2 := 289) op182_286 rfl (by decide) ex75 rfl rfl ?_
                refine ry_go (tgt := 53) op182_289 (by decide) (by decide) ?_
                exact ih _ _ _ _ _ _ _ _ _ _ h
              refine ry_if_eq (tgt := 253) (pc2 := 235) op182_232 (by decide) (by decide) rfl (fun b60 => ?_) (fun b60 => ?_)
              · have gc76 := (if_pos b60).symm.trans gc76
                refine rx_ic (v := 0) (pc2 := 254) op182_253 (by decide) rfl ?_
                cases gc76
                exact c76 _ _ _ _
              · have gc76 := (if_neg b60).symm.trans gc76
                refine rx_p (L2 := [some (.ref 115), some (.int a1), some (.int a2), some (.int a3), some (.int x59), some (.int a5), some (.int a6), some (.int a7), some (.int x17), some (.int x20), some (.int x22), o56, o57, some (.int x51)]) (S2 := [.int x51]) (pc2 := 237) op182_235 rfl rfl ?_
                refine ry_if_eq (tgt := 249) (pc2 := 240) op182_237 (by decide) (by decide) rfl (fun b61 => ?_) (fun b61 => ?_)
                · have gc76 := (if_pos b61).symm.trans gc76
                  refine rx_ic (v := 1) (pc2 := 250) op182_249 (by decide) rfl ?_
                  refine ry_go (tgt := 254) op182_250 (by decide) (by decide) ?_
                  cases gc76
                  exact c76 _ _ _ _
                · have gc76 := (if_neg b61).symm.trans gc76
                  refine rx_p (L2 := [some (.ref 115), some (.int a1), some (.int a2), some (.int a3), some (.int x59), some (.int a5), some (.int a6), some (.int a7), some (.int x17), some (.int x20), some (.int x22), o56, o57, some (.int x51)]) (S2 := [.int x20]) (pc2 := 242) op182_240 rfl rfl ?_
                  refine rx_p (L2 := [some (.ref 115), some (.int a1), some (.int a2), some (.int a3), some (.int x59), some (.int a5), some (.int a6), some (.int a7), some (.int x17), some (.int x20), some (.int x22), o56, o57, some (.int x51)]) (S2 := [.ref 115, .int x20]) (pc2 := 243) op182_242 rfl rfl ?_
                  refine rx_gf (v := .int (m52.1 115 12)) (pc2 := 246) op182_243 sp_115 rfl rfl rfl ?_
                  refine ry_ic_eq (tgt := 253) (pc2 := 249) op182_246 (by decide) (by decide) rfl (fun b62 => ?_) (fun b62 => ?_)
                  · have gc76 := (if_pos b62).symm.trans gc76
                    refine rx_ic (v := 0) (pc2 := 254) op182_253 (by decide) rfl ?_
                    cases gc76
                    exact c76 _ _ _ _
                  · have gc76 := (if_neg b62).symm.trans gc76
                    refine rx_ic (v := 1) (pc2 := 250) op182_249 (by decide) rfl ?_
                    refine ry_go (tgt := 254) op182_250 (by decide) (by decide) ?_
                    cases gc76
                    exact c76 _ _ _ _
            refine ry_if_eq (tgt := 226) (pc2 := 222) op182_219 (by decide) (by decide) rfl (fun b54 => ?_) (fun b54 => ?_)
            · have gc77 := (if_pos b54).symm.trans gc77
              refine rx_ic (v := 0) (pc2 := 227) op182_226 (by decide) rfl ?_
              cases gc77
              exact c77 _ _ _
            · have gc77 := (if_neg b54).symm.trans gc77
              refine rx_ic (v := 1) (pc2 := 223) op182_222 (by decide) rfl ?_
              refine ry_go (tgt := 227) op182_223 (by decide) (by decide) ?_
              cases gc77
              exact c77 _ _ _
          refine ry_if_le (tgt := 212) (pc2 := 180) op182_177 (by decide) (by decide) rfl (fun b40 => ?_) (fun b40 => ?_)
          · have gc78 := (if_pos b40).symm.trans gc78
            refine rx_p (L2 := [some (.ref 115), some (.int a1), some (.int a2), some (.int a3), some (.int a4), some (.int a5), some (.int a6), some (.int a7), some (.int x17), some (.int x20), some (.int x22), some (.int x27), some (.int x38), o37]) (S2 := [.ref 115]) (pc2 := 181) op182_180 rfl rfl ?_
            refine rx_gf (v := .int (m39.1 115 9)) (pc2 := 184) op182_181 sp_115 rfl rfl rfl ?_
            refine rx_ic (v := 1) (pc2 := 185) op182_184 (by decide) rfl ?_
            refine ry_ic_eq (tgt := 212) (pc2 := 188) op182_185 (by decide) (by decide) rfl (fun b41 => ?_) (fun b41 => ?_)
            · have gc78 := (if_pos b41).symm.trans gc78
              refine rx_ic (v := 0) (pc2 := 213) op182_212 (by decide) rfl ?_
              cases gc78
              exact c78 _ _ _
            · have gc78 := (if_neg b41).symm.trans gc78
              refine rx_p (L2 := [some (.ref 115), some (.int a1), some (.int a2), some (.int a3), some (.int a4), some (.int a5), some (.int a6), some (.int a7), some (.int x17), some (.int x20), some (.int x22), some (.int x27), some (.int x38), o37]) (S2 := [.int x17]) (pc2 := 190) op182_188 rfl rfl ?_
              obtain ⟨⟨r43, m42⟩, f44, gc78⟩ := rq_bind gc78
              try dsimp only at gc78
              refine ry_is (vs := [.int x17]) (T := []) (pc2 := 193) op182_190 (by decide) ms_162 (by decide) rfl rfl (Nat.le_of_ble_eq_true rfl) (Nat.le_of_ble_eq_true rfl) (mo_suitOf_ok xs (by omega)  f44) rfl ?_
              show rn_R _ _ _ _ _ [.int r43] _ _ _
              refine rx_p (L2 := [some (.ref 115), some (.int a1), some (.int a2), some (.int a3), some (.int a4), some (.int a5), some (.int a6), some (.int a7), some (.int x17), some (.int x20), some (.int x22), some (.int x27), some (.int x38), o37]) (S2 := [.int a5, .int r43]) (pc2 := 195) op182_193 rfl rfl ?_
              refine ry_ic_eq (tgt := 212) (pc2 := 198) op182_195 (by decide) (by decide) rfl (fun b45 => ?_) (fun b45 => ?_)
              · have gc78 := (if_pos b45).symm.trans gc78
                refine rx_ic (v := 0) (pc2 := 213) op182_212 (by decide) rfl ?_
                cases gc78
                exact c78 _ _ _
              · have gc78 := (if_neg b45).symm.trans gc78
                refine rx_p (L2 := [some (.ref 115), some (.int a1), some (.int a2), some (.int a3), some (.int a4), some (.int a5), some (.int a6), some (.int a7), some (.int x17), some (.int x20), some (.int x22), some (.int x27), some (.int x38), o37]) (S2 := [.int x27]) (pc2 := 200) op182_198 rfl rfl ?_
                refine ry_if_ne (tgt := 208) (pc2 := 203) op182_200 (by decide) (by decide) rfl (fun b46 => ?_) (fun b46 => ?_)
                · have gc78 := (if_pos b46).symm.trans gc78
                  refine rx_p (L2 := [some (.ref 115), some (.int a1), some (.int a2), some (.int a3), some (.int a4), some (.int a5), some (.int a6), some (.int a7), some (.int x17), some (.int x20), some (.int x22), some (.int x27), some (.int x38), o37]) (S2 := [.int x38]) (pc2 := 205) op182_203 rfl rfl ?_
                  refine ry_if_eq (tgt := 212) (pc2 := 208) op182_205 (by decide) (by decide) rfl (fun b47 => ?_) (fun b47 => ?_)
                  · have gc78 := (if_pos b47).symm.trans gc78
                    refine rx_ic (v := 0) (pc2 := 213) op182_212 (by decide) rfl ?_
                    cases gc78
                    exact c78 _ _ _
                  · have gc78 := (if_neg b47).symm.trans gc78
                    refine rx_ic (v := 1) (pc2 := 209) op182_208 (by decide) rfl ?_
                    refine ry_go (tgt := 213) op182_209 (by decide) (by decide) ?_
                    cases gc78
                    exact c78 _ _ _
                · have gc78 := (if_neg b46).symm.trans gc78
                  refine rx_ic (v := 1) (pc2 := 209) op182_208 (by decide) rfl ?_
                  refine ry_go (tgt := 213) op182_209 (by decide) (by decide) ?_
                  cases gc78
                  exact c78 _ _ _
          · have gc78 := (if_neg b40).symm.trans gc78
            refine rx_ic (v := 0) (pc2 := 213) op182_212 (by decide) rfl ?_
            cases gc78
            exact c78 _ _ _
        refine ry_ic_ne (tgt := 172) (pc2 := 131) op182_128 (by decide) (by decide) rfl (fun b28 => ?_) (fun b28 => ?_)
        · have gc79 := (if_pos b28).symm.trans gc79
          refine rx_p (L2 := [some (.ref 115), some (.int a1), some (.int a2), some (.int a3), some (.int a4), some (.int a5), some (.int a6), some (.int a7), some (.int x17), some (.int x20), some (.int x22), some (.int x27), o25, o26]) (S2 := [.ref 115]) (pc2 := 132) op182_131 rfl rfl ?_
          refine rx_gf (v := .int (m13.1 115 8)) (pc2 := 135) op182_132 sp_115 rfl rfl rfl ?_
          refine ry_if_lt (tgt := 172) (pc2 := 138) op182_135 (by decide) (by decide) rfl (fun b29 => ?_) (fun b29 => ?_)
          · have gc79 := (if_pos b29).symm.trans gc79
            refine rx_ic (v := 0) (pc2 := 173) op182_172 (by decide) rfl ?_
            cases gc79
            exact c79 _ _
          · have gc79 := (if_neg b29).symm.trans gc79
            refine rx_p (L2 := [some (.ref 115), some (.int a1), some (.int a2), some (.int a3), some (.int a4), some (.int a5), some (.int a6), some (.int a7), some (.int x17), some (.int x20), some (.int x22), some (.int x27), o25, o26]) (S2 := [.int x27]) (pc2 := 140) op182_138 rfl rfl ?_
            refine ry_if_ne (tgt := 172) (pc2 := 143) op182_140 (by decide) (by decide) rfl (fun b30 => ?_) (fun b30 => ?_)
            · have gc79 := (if_pos b30).symm.trans gc79
              refine rx_p (L2 := [some (.ref 115), some (.int a1), some (.int a2), some (.int a3), some (.int a4), some (.int a5), some (.int a6), some (.int a7), some (.int x17), some (.int x20), some (.int x22), some (.int x27), o25, o26]) (S2 := [.int x17]) (pc2 := 145) op182_143 rfl rfl ?_
              obtain ⟨⟨r32, m31⟩, f33, gc79⟩ := rq_bind gc79
              try dsimp only at gc79
              refine ry_is (vs := [.int x17]) (T := []) (pc2 := 148) op182_145 (by decide) ms_162 (by decide) rfl rfl (Nat.le_of_ble_eq_true rfl) (Nat.le_of_ble_eq_true rfl) (mo_suitOf_ok xs (by omega)  f33) rfl ?_
              show rn_R _ _ _ _ _ [.int r32] _ _ _
              refine rx_p (L2 := [some (.ref 115), some (.int a1), some (.int a2), some (.int a3), some (.int a4), some (.int a5), some (.int a6), some (.int a7), some (.int x17), some (.int x20), some (.int x22), some (.int x27), o25, o26]) (S2 := [.ref 115, .int r32]) (pc2 := 149) op182_148 rfl rfl ?_
              refine rx_gf (v := .int (m31.1 115 8)) (pc2 := 152) op182_149 sp_115 rfl rfl rfl ?_
              refine ry_ic_eq (tgt := 172) (pc2 := 155) op182_152 (by decide) (by decide) rfl (fun b34 => ?_) (fun b34 => ?_)
              · have gc79 := (if_pos b34).symm.trans gc79
                refine rx_ic (v := 0) (pc2 := 173) op182_172 (by decide) rfl ?_
                cases gc79
                exact c79 _ _
              · have gc79 := (if_neg b34).symm.trans gc79
                refine rx_p (L2 := [some (.ref 115), some (.int a1), some (.int a2), some (.int a3), some (.int a4), some (.int a5), some (.int a6), some (.int a7), some (.int x17), some (.int x20), some (.int x22), some (.int x27), o25, o26]) (S2 := [.int x22]) (pc2 := 157) op182_155 rfl rfl ?_
                refine rx_p (L2 := [some (.ref 115), some (.int a1), some (.int a2), some (.int a3), some (.int a4), some (.int a5), some (.int a6), some (.int a7), some (.int x17), some (.int x20), some (.int x22), some (.int x27), o25, o26]) (S2 := [.ref 115, .int x22]) (pc2 := 158) op182_157 rfl rfl ?_
                refine rx_gf (v := .int (m31.1 115 8)) (pc2 := 161) op182_158 sp_115 rfl rfl rfl ?_
                refine rx_p (L2 := [some (.ref 115), some (.int a1), some (.int a2), some (.int a3), some (.int a4), some (.int a5), some (.int a6), some (.int a7), some (.int x17), some (.int x20), some (.int x22), some (.int x27), o25, o26]) (S2 := [.int (x22 >>> ((m31.1 115 8) &&& 31))]) (pc2 := 162) op182_161 rfl rfl ?_
                refine rx_ic (v := 1) (pc2 := 163) op182_162 (by decide) rfl ?_
                refine rx_p (L2 := [some (.ref 115), some (.int a1), some (.int a2), some (.int a3), some (.int a4), some (.int a5), some (.int a6), some (.int a7), some (.int x17), some (.int x20), some (.int x22), some (.int x27), o25, o26]) (S2 := [.int ((x22 >>> ((m31.1 115 8) &&& 31)) &&& 1)]) (pc2 := 164) op182_163 rfl rfl ?_
                refine rx_ic (v := 1) (pc2 := 165) op182_164 (by decide) rfl ?_
                refine ry_ic_ne (tgt := 172) (pc2 := 168) op182_165 (by decide) (by decide) rfl (fun b35 => ?_) (fun b35 => ?_)
                · have gc79 := (if_pos b35).symm.trans gc79
                  refine rx_ic (v := 1) (pc2 := 169) op182_168 (by decide) rfl ?_
                  refine ry_go (tgt := 173) op182_169 (by decide) (by decide) ?_
                  cases gc79
                  exact c79 _ _
                · have gc79 := (if_neg b35).symm.trans gc79
                  refine rx_ic (v := 0) (pc2 := 173) op182_172 (by decide) rfl ?_
                  cases gc79
                  exact c79 _ _
            · have gc79 := (if_neg b30).symm.trans gc79
              refine rx_ic (v := 0) (pc2 := 173) op182_172 (by decide) rfl ?_
              cases gc79
              exact c79 _ _
        · have gc79 := (if_neg b28).symm.trans gc79
          refine rx_ic (v := 0) (pc2 := 173) op182_172 (by decide) rfl ?_
          cases gc79
          exact c79 _ _
      refine ry_ic_ne (tgt := 120) (pc2 := 116) op182_113 (by decide) (by decide) rfl (fun b23 => ?_) (fun b23 => ?_)
      · have gc80 := (if_pos b23).symm.trans gc80
        refine rx_ic (v := 1) (pc2 := 117) op182_116 (by decide) rfl ?_
        refine ry_go (tgt := 121) op182_117 (by decide) (by decide) ?_
        cases gc80
        exact c80 _ _ _
      · have gc80 := (if_neg b23).symm.trans gc80
        refine rx_ic (v := 0) (pc2 := 121) op182_120 (by decide) rfl ?_
        cases gc80
        exact c80 _ _ _
    · have h := (if_neg b12).symm.trans h
      cases h
      exact hr _ _ _ rfl _ _ _ _ _ _ _ _ _ _
set_option maxHeartbeats 4000000 in
set_option maxRecDepth 20000 in
theorem mo_layTrick_ok (xs : List Int32) {d : Nat} (hd : 1 ≤ d) {n : Nat} {a1 : Int32} {m mO : rn_Mem} {rO : Int32} (h : mo_layTrick n a1 m = some (rO, mO)) : rn_R xs d 182 0 (rn_ent 14 [.ref 115, .int a1]) [] (rn_SH, m) (some (.int rO)) (rn_SH, mO) := by
  obtain ⟨d, rfl⟩ : ∃ e, d = e + 1 := ⟨d - 1, by omega⟩
  unfold mo_layTrick at h
  show rn_R xs (d + 1) 182 0 [some (.ref 115), some (.int a1), none, none, none, none, none, none, none, none, none, none, none, none] [] (rn_SH, m) (some (.int rO)) (rn_SH, mO)
  refine rx_p (L2 := [some (.ref 115), some (.int a1), none, none, none, none, none, none, none, none, none, none, none, none]) (S2 := [.ref 115]) (pc2 := 1) op182_0 rfl rfl ?_
  refine rx_gf (v := .ref 116) (pc2 := 4) op182_1 sp_115 rfl rfl rfl ?_
  refine rx_ic (v := 1) (pc2 := 5) op182_4 (by decide) rfl ?_
  refine rx_ia (j := 1) (pc2 := 6) op182_5 (rn_shlt sp_116) sp_116 (by decide) (by decide) rfl ?_
  obtain ⟨x1, ex1, h⟩ := rq_bv h
  refine rx_s (v := x1) (L2 := [some (.ref 115), some (.int a1), some (.int x1), none, none, none, none, none, none, none, none, none, none, none]) (pc2 := 7) op182_6 ex1 rfl rfl ?_
  refine rx_p (L2 := [some (.ref 115), some (.int a1), some (.int x1), none, none, none, none, none, none, none, none, none, none, none]) (S2 := [.ref 115]) (pc2 := 8) op182_7 rfl rfl ?_
  refine rx_gf (v := .ref 131) (pc2 := 11) op182_8 sp_115 rfl rfl rfl ?_
  refine rx_bp (v := 24) (pc2 := 13) op182_11 (by decide) rfl ?_
  refine rx_p (L2 := [some (.ref 115), some (.int a1), some (.int x1), none, none, none, none, none, none, none, none, none, none, none]) (S2 := [.int a1, .int 24, .ref 131]) (pc2 := 14) op182_13 rfl rfl ?_
  refine rx_p (L2 := [some (.ref 115), some (.int a1), some (.int x1), none, none, none, none, none, none, none, none, none, none, none]) (S2 := [.int ((24 : Int32) * a1), .ref 131]) (pc2 := 15) op182_14 rfl rfl ?_
  refine rx_p (L2 := [some (.ref 115), some (.int a1), some (.int x1), none, none, none, none, none, none, none, none, none, none, none]) (S2 := [.ref 115, .int ((24 : Int32) * a1), .ref 131]) (pc2 := 16) op182_15 rfl rfl ?_
  refine rx_gf (v := .ref 133) (pc2 := 19) op182_16 sp_115 rfl rfl rfl ?_
  refine rx_p (L2 := [some (.ref 115), some (.int a1), some (.int x1), none, none, none, none, none, none, none, none, none, none, none]) (S2 := [.int a1, .ref 133, .int ((24 : Int32) * a1), .ref 131]) (pc2 := 20) op182_19 rfl rfl ?_
  obtain ⟨k2, h⟩ := rq_chk h
  refine rx_ia (pc2 := 21) op182_20 (rn_shlt sp_133) sp_133 k2 rfl rfl ?_
  refine rx_p (L2 := [some (.ref 115), some (.int a1), some (.int x1), none, none, none, none, none, none, none, none, none, none, none]) (S2 := [.int (((24 : Int32) * a1) + (m.1 133 a1.toNatClampNeg)), .ref 131]) (pc2 := 22) op182_21 rfl rfl ?_
  obtain ⟨k3, h⟩ := rq_chk h
  refine rx_ia (pc2 := 23) op182_22 (rn_shlt sp_131) sp_131 k3 rfl rfl ?_
  obtain ⟨x4, ex4, h⟩ := rq_bv h
  refine rx_s (v := x4) (L2 := [some (.ref 115), some (.int a1), some (.int x1), some (.int x4), none, none, none, none, none, none, none, none, none, none]) (pc2 := 24) op182_23 ex4 rfl rfl ?_
  refine rx_ic (v := 0) (pc2 := 25) op182_24 (by decide) rfl ?_
  refine rx_s (L2 := [some (.ref 115), some (.int a1), some (.int x1), some (.int x4), some (.int 0), none, none, none, none, none, none, none, none, none]) (pc2 := 27) op182_25 rfl rfl rfl ?_
  refine rx_p (L2 := [some (.ref 115), some (.int a1), some (.int x1), some (.int x4), some (.int 0), none, none, none, none, none, none, none, none, none]) (S2 := [.ref 115]) (pc2 := 28) op182_27 rfl rfl ?_
  refine rx_gf (v := .ref 130) (pc2 := 31) op182_28 sp_115 rfl rfl rfl ?_
  refine rx_ic (v := 4) (pc2 := 32) op182_31 (by decide) rfl ?_
  refine rx_p (L2 := [some (.ref 115), some (.int a1), some (.int x1), some (.int x4), some (.int 0), none, none, none, none, none, none, none, none, none]) (S2 := [.int a1, .int 4, .ref 130]) (pc2 := 33) op182_32 rfl rfl ?_
  refine rx_p (L2 := [some (.ref 115), some (.int a1), some (.int x1), some (.int x4), some (.int 0), none, none, none, none, none, none, none, none, none]) (S2 := [.int ((4 : Int32) * a1), .ref 130]) (pc2 := 34) op182_33 rfl rfl ?_
  refine rx_p (L2 := [some (.ref 115), some (.int a1), some (.int x1), some (.int x4), some (.int 0), none, none, none, none, none, none, none, none, none]) (S2 := [.int x1, .int ((4 : Int32) * a1), .ref 130]) (pc2 := 35) op182_34 rfl rfl ?_
  refine rx_p (L2 := [some (.ref 115), some (.int a1), some (.int x1), some (.int x4), some (.int 0), none, none, none, none, none, none, none, none, none]) (S2 := [.int x4, .int x1, .int ((4 : Int32) * a1), .ref 130]) (pc2 := 36) op182_35 rfl rfl ?_
  refine rx_ic (v := 0) (pc2 := 37) op182_36 (by decide) rfl ?_
  obtain ⟨⟨r6, m5⟩, f7, h⟩ := rq_bind h
  try dsimp only at h
  refine ry_is (vs := [.int x1, .int x4, .int 0]) (T := [.int ((4 : Int32) * a1), .ref 130]) (pc2 := 40) op182_37 (by decide) ms_177 (by decide) rfl rfl (Nat.le_of_ble_eq_true rfl) (Nat.le_of_ble_eq_true rfl) (mo_ordered_ok xs (by omega)  f7) rfl ?_
  show rn_R _ _ _ _ _ [.int r6, .int ((4 : Int32) * a1), .ref 130] _ _ _
  refine rx_p (L2 := [some (.ref 115), some (.int a1), some (.int x1), some (.int x4), some (.int 0), none, none, none, none, none, none, none, none, none]) (S2 := [.int (((4 : Int32) * a1) + r6), .ref 130]) (pc2 := 41) op182_40 rfl rfl ?_
  obtain ⟨k8, h⟩ := rq_chk h
  refine rx_ia (pc2 := 42) op182_41 (rn_shlt sp_130) sp_130 k8 rfl rfl ?_
  obtain ⟨⟨r10, m9⟩, f11, h⟩ := rq_bind h
  try dsimp only at h
  refine ry_is (vs := [.int (m5.1 130 (((4 : Int32) * a1) + r6).toNatClampNeg)]) (T := []) (pc2 := 45) op182_42 (by decide) ms_162 (by decide) rfl rfl (Nat.le_of_ble_eq_true rfl) (Nat.le_of_ble_eq_true rfl) (mo_suitOf_ok xs (by omega)  f11) rfl ?_
  show rn_R _ _ _ _ _ [.int r10] _ _ _
  refine rx_s (L2 := [some (.ref 115), some (.int a1), some (.int x1), some (.int x4), some (.int 0), some (.int r10), none, none, none, none, none, none, none, none]) (pc2 := 47) op182_45 rfl rfl rfl ?_
  refine rx_ic (v := 1) (pc2 := 48) op182_47 (by decide) rfl ?_
  refine rx_s (L2 := [some (.ref 115), some (.int a1), some (.int x1), some (.int x4), some (.int 0), some (.int r10), some (.int 1), none, none, none, none, none, none, none]) (pc2 := 50) op182_48 rfl rfl rfl ?_
  refine rx_ic (v := 0) (pc2 := 51) op182_50 (by decide) rfl ?_
  refine rx_s (L2 := [some (.ref 115), some (.int a1), some (.int x1), some (.int x4), some (.int 0), some (.int r10), some (.int 1), some (.int 0), none, none, none, none, none, none]) (pc2 := 53) op182_51 rfl rfl rfl ?_
  obtain ⟨wf123, f123, h⟩ := rq_bind h
  refine mo_layTrick_l53_ok xs hd (fun x84 x86 m81 eq => ?_) _ _ _ _ _ _ _ _ _ _ _  f123
  subst eq
  try dsimp only at h
  intro o82 o83 o85 o87 o88 o89 o90 o91 o92 o93
  refine rx_p (L2 := [some (.ref 115), some (.int a1), o82, o83, some (.int x84), o85, some (.int x86), o87, o88, o89, o90, o91, o92, o93]) (S2 := [.ref 115]) (pc2 := 293) op182_292 rfl rfl ?_
  refine rx_gf (v := .ref 135) (pc2 := 296) op182_293 sp_115 rfl rfl rfl ?_
  refine rx_p (L2 := [some (.ref 115), some (.int a1), o82, o83, some (.int x84), o85, some (.int x86), o87, o88, o89, o90, o91, o92, o93]) (S2 := [.int a1, .ref 135]) (pc2 := 297) op182_296 rfl rfl ?_
  refine rx_p (L2 := [some (.ref 115), some (.int a1), o82, o83, some (.int x84), o85, some (.int x86), o87, o88, o89, o90, o91, o92, o93]) (S2 := [.ref 115, .int a1, .ref 135]) (pc2 := 298) op182_297 rfl rfl ?_
  refine rx_gf (v := .ref 135) (pc2 := 301) op182_298 sp_115 rfl rfl rfl ?_
  refine rx_p (L2 := [some (.ref 115), some (.int a1), o82, o83, some (.int x84), o85, some (.int x86), o87, o88, o89, o90, o91, o92, o93]) (S2 := [.int a1, .ref 135, .int a1, .ref 135]) (pc2 := 302) op182_301 rfl rfl ?_
  refine rx_ic (v := 1) (pc2 := 303) op182_302 (by decide) rfl ?_
  refine rx_p (L2 := [some (.ref 115), some (.int a1), o82, o83, some (.int x84), o85, some (.int x86), o87, o88, o89, o90, o91, o92, o93]) (S2 := [.int (a1 + 1), .ref 135, .int a1, .ref 135]) (pc2 := 304) op182_303 rfl rfl ?_
  obtain ⟨k94, h⟩ := rq_chk h
  refine rx_ia (pc2 := 305) op182_304 (rn_shlt sp_135) sp_135 k94 rfl rfl ?_
  refine rx_p (L2 := [some (.ref 115), some (.int a1), o82, o83, some (.int x84), o85, some (.int x86), o87, o88, o89, o90, o91, o92, o93]) (S2 := [.int x84, .int (m81.1 135 (a1 + 1).toNatClampNeg), .int a1, .ref 135]) (pc2 := 307) op182_305 rfl rfl ?_
  refine rx_p (L2 := [some (.ref 115), some (.int a1), o82, o83, some (.int x84), o85, some (.int x86), o87, o88, o89, o90, o91, o92, o93]) (S2 := [.int ((m81.1 135 (a1 + 1).toNatClampNeg) + x84), .int a1, .ref 135]) (pc2 := 308) op182_307 rfl rfl ?_
  obtain ⟨k96, h⟩ := rq_chk h
  obtain ⟨m95, em95, h⟩ := rq_bv h
  refine rx_is (m2 := m95) (pc2 := 309) op182_308 sp_135 k96 rfl em95 rfl ?_
  refine rx_p (L2 := [some (.ref 115), some (.int a1), o82, o83, some (.int x84), o85, some (.int x86), o87, o88, o89, o90, o91, o92, o93]) (S2 := [.ref 115]) (pc2 := 310) op182_309 rfl rfl ?_
  refine rx_gf (v := .int (m95.1 115 11)) (pc2 := 313) op182_310 sp_115 rfl rfl rfl ?_
  obtain ⟨x115, gc122, h⟩ := rq_bind h
  try dsimp only at h
  have c122 : ∀ (o103 o104 o105 o106 o107 o108 o109 o110 o111 o112 o113 o114 : Option Value), rn_R xs (d + 1) 182 359 [some (.ref 115), some (.int a1), o103, o104, o105, o106, o107, o108, o109, o110, o111, o112, o113, o114] [.int x115] (rn_SH, m95) (some (.int rO)) (rn_SH, mO) := by
    intro o103 o104 o105 o106 o107 o108 o109 o110 o111 o112 o113 o114
    refine rx_sd (v := x115) (j := 6) (pc2 := 361) op182_359 rfl rfl (Nat.le_of_ble_eq_true rfl) rfl (fun o116 => ?_)
    show rn_R _ _ _ _ [some (.ref 115), some (.int a1), o103, o104, o105, o106, o116, some (.int x115), o109, o110, o111, o112, o113, o114] _ _ _ _
    refine rx_p (L2 := [some (.ref 115), some (.int a1), o103, o104, o105, o106, o116, some (.int x115), o109, o110, o111, o112, o113, o114]) (S2 := [.int x115]) (pc2 := 363) op182_361 rfl rfl ?_
    refine ry_if_eq (tgt := 378) (pc2 := 366) op182_363 (by decide) (by decide) rfl (fun b117 => ?_) (fun b117 => ?_)
    · have h := (if_pos b117).symm.trans h
      refine rx_ic (v := 0) (pc2 := 379) op182_378 (by decide) rfl ?_
      obtain ⟨rfl, rfl⟩ := rq_ret h
      exact ry_rz (x := 0) op182_379 ms_182 rfl (by decide)
    · have h := (if_neg b117).symm.trans h
      refine rx_p (L2 := [some (.ref 115), some (.int a1), o103, o104, o105, o106, o116, some (.int x115), o109, o110, o111, o112, o113, o114]) (S2 := [.ref 115]) (pc2 := 367) op182_366 rfl rfl ?_
      refine rx_p (L2 := [some (.ref 115), some (.int a1), o103, o104, o105, o106, o116, some (.int x115), o109, o110, o111, o112, o113, o114]) (S2 := [.int a1, .ref 115]) (pc2 := 368) op182_367 rfl rfl ?_
      obtain ⟨⟨r119, m118⟩, f120, h⟩ := rq_bind h
      try dsimp only at h
      refine ry_iv (p := 115) (vs := [.int a1]) (T := []) (pc2 := 371) op182_368 ms_183 (by decide) rfl rfl (Nat.le_of_ble_eq_true rfl) (Nat.le_of_ble_eq_true rfl) sp_115 (mo_cluesLetTrick_ok xs (by omega)  f120) rfl ?_
      show rn_R _ _ _ _ _ [.int r119] _ _ _
      refine ry_if_eq (tgt := 378) (pc2 := 374) op182_371 (by decide) (by decide) rfl (fun b121 => ?_) (fun b121 => ?_)
      · have h := (if_pos b121).symm.trans h
        refine rx_ic (v := 0) (pc2 := 379) op182_378 (by decide) rfl ?_
        obtain ⟨rfl, rfl⟩ := rq_ret h
        exact ry_rz (x := 0) op182_379 ms_182 rfl (by decide)
      · have h := (if_neg b121).symm.trans h
        refine rx_ic (v := 1) (pc2 := 375) op182_374 (by decide) rfl ?_
        refine ry_go (tgt := 379) op182_375 (by decide) (by decide) ?_
        obtain ⟨rfl, rfl⟩ := rq_ret h
        exact ry_rz (x := 1) op182_379 ms_182 rfl (by decide)
  refine ry_if_eq (tgt := 349) (pc2 := 316) op182_313 (by decide) (by decide) rfl (fun b97 => ?_) (fun b97 => ?_)
  · have gc122 := (if_pos b97).symm.trans gc122
    refine rx_p (L2 := [some (.ref 115), some (.int a1), o82, o83, some (.int x84), o85, some (.int x86), o87, o88, o89, o90, o91, o92, o93]) (S2 := [.int x84]) (pc2 := 351) op182_349 rfl rfl ?_
    refine ry_if_ne (tgt := 358) (pc2 := 354) op182_351 (by decide) (by decide) rfl (fun b98 => ?_) (fun b98 => ?_)
    · have gc122 := (if_pos b98).symm.trans gc122
      refine rx_ic (v := 1) (pc2 := 355) op182_354 (by decide) rfl ?_
      refine ry_go (tgt := 359) op182_355 (by decide) (by decide) ?_
      cases gc122
      exact c122 _ _ _ _ _ _ _ _ _ _ _ _
    · have gc122 := (if_neg b98).symm.trans gc122
      refine rx_ic (v := 0) (pc2 := 359) op182_358 (by decide) rfl ?_
      cases gc122
      exact c122 _ _ _ _ _ _ _ _ _ _ _ _
  · have gc122 := (if_neg b97).symm.trans gc122
    refine rx_p (L2 := [some (.ref 115), some (.int a1), o82, o83, some (.int x84), o85, some (.int x86), o87, o88, o89, o90, o91, o92, o93]) (S2 := [.int x86]) (pc2 := 318) op182_316 rfl rfl ?_
    refine ry_if_eq (tgt := 345) (pc2 := 321) op182_318 (by decide) (by decide) rfl (fun b99 => ?_) (fun b99 => ?_)
    · have gc122 := (if_pos b99).symm.trans gc122
      refine rx_ic (v := 0) (pc2 := 346) op182_345 (by decide) rfl ?_
      refine ry_go (tgt := 359) op182_346 (by decide) (by decide) ?_
      cases gc122
      exact c122 _ _ _ _ _ _ _ _ _ _ _ _
    · have gc122 := (if_neg b99).symm.trans gc122
      refine rx_p (L2 := [some (.ref 115), some (.int a1), o82, o83, some (.int x84), o85, some (.int x86), o87, o88, o89, o90, o91, o92, o93]) (S2 := [.ref 115]) (pc2 := 322) op182_321 rfl rfl ?_
      refine rx_gf (v := .int (m95.1 115 15)) (pc2 := 325) op182_322 sp_115 rfl rfl rfl ?_
      refine ry_if_lt (tgt := 341) (pc2 := 328) op182_325 (by decide) (by decide) rfl (fun b100 => ?_) (fun b100 => ?_)
      · have gc122 := (if_pos b100).symm.trans gc122
        refine rx_ic (v := 1) (pc2 := 342) op182_341 (by decide) rfl ?_
        refine ry_go (tgt := 359) op182_342 (by decide) (by decide) ?_
        cases gc122
        exact c122 _ _ _ _ _ _ _ _ _ _ _ _
      · have gc122 := (if_neg b100).symm.trans gc122
        refine rx_p (L2 := [some (.ref 115), some (.int a1), o82, o83, some (.int x84), o85, some (.int x86), o87, o88, o89, o90, o91, o92, o93]) (S2 := [.ref 115]) (pc2 := 329) op182_328 rfl rfl ?_
        refine rx_gf (v := .ref 135) (pc2 := 332) op182_329 sp_115 rfl rfl rfl ?_
        refine rx_p (L2 := [some (.ref 115), some (.int a1), o82, o83, some (.int x84), o85, some (.int x86), o87, o88, o89, o90, o91, o92, o93]) (S2 := [.int a1, .ref 135]) (pc2 := 333) op182_332 rfl rfl ?_
        obtain ⟨k101, gc122⟩ := rq_chk gc122
        refine rx_ia (pc2 := 334) op182_333 (rn_shlt sp_135) sp_135 k101 rfl rfl ?_
        refine rx_p (L2 := [some (.ref 115), some (.int a1), o82, o83, some (.int x84), o85, some (.int x86), o87, o88, o89, o90, o91, o92, o93]) (S2 := [.ref 115, .int (m95.1 135 a1.toNatClampNeg)]) (pc2 := 335) op182_334 rfl rfl ?_
        refine rx_gf (v := .int (m95.1 115 15)) (pc2 := 338) op182_335 sp_115 rfl rfl rfl ?_
        refine ry_ic_ge (tgt := 345) (pc2 := 341) op182_338 (by decide) (by decide) rfl (fun b102 => ?_) (fun b102 => ?_)
        · have gc122 := (if_pos b102).symm.trans gc122
          refine rx_ic (v := 1) (pc2 := 342) op182_341 (by decide) rfl ?_
          refine ry_go (tgt := 359) op182_342 (by decide) (by decide) ?_
          cases gc122
          exact c122 _ _ _ _ _ _ _ _ _ _ _ _
        · have gc122 := (if_neg b102).symm.trans gc122
          refine rx_ic (v := 0) (pc2 := 346) op182_345 (by decide) rfl ?_
          refine ry_go (tgt := 359) op182_346 (by decide) (by decide) ?_
          cases gc122
          exact c122 _ _ _ _ _ _ _ _ _ _ _ _
/-! mo_cardAt -/
theorem op185_0 : rn_op 185 0 = some (.iload_n 1, 1, 0, 0, 0) := by decide +kernel
theorem op185_1 : rn_op 185 1 = some (.aload_n 0, 1, 0, 0, 0) := by decide +kernel
theorem op185_2 : rn_op 185 2 = some (.getfield 7, 3, 11, 0, 3) := by decide +kernel
theorem op185_5 : rn_op 185 5 = some (.iconst 1, 1, 0, 0, 0) := by decide +kernel
theorem op185_6 : rn_op 185 6 = some (.iaload, 1, 0, 0, 0) := by decide +kernel
theorem op185_7 : rn_op 185 7 = some (.idiv, 1, 0, 0, 0) := by decide +kernel
theorem op185_8 : rn_op 185 8 = some (.istore_n 2, 1, 0, 0, 0) := by decide +kernel
theorem op185_9 : rn_op 185 9 = some (.aload_n 0, 1, 0, 0, 0) := by decide +kernel
theorem op185_10 : rn_op 185 10 = some (.getfield 52, 3, 11, 27, 3) := by decide +kernel
theorem op185_13 : rn_op 185 13 = some (.iconst 4, 1, 0, 0, 0) := by decide +kernel
theorem op185_14 : rn_op 185 14 = some (.iload_n 2, 1, 0, 0, 0) := by decide +kernel
theorem op185_15 : rn_op 185 15 = some (.imul, 1, 0, 0, 0) := by decide +kernel
theorem op185_16 : rn_op 185 16 = some (.aload_n 0, 1, 0, 0, 0) := by decide +kernel
theorem op185_17 : rn_op 185 17 = some (.getfield 7, 3, 11, 0, 3) := by decide +kernel
theorem op185_20 : rn_op 185 20 = some (.iconst 1, 1, 0, 0, 0) := by decide +kernel
theorem op185_21 : rn_op 185 21 = some (.iaload, 1, 0, 0, 0) := by decide +kernel
theorem op185_22 : rn_op 185 22 = some (.aload_n 0, 1, 0, 0, 0) := by decide +kernel
theorem op185_23 : rn_op 185 23 = some (.getfield 55, 3, 11, 28, 3) := by decide +kernel
theorem op185_26 : rn_op 185 26 = some (.bipush 24, 2, 0, 0, 0) := by decide +kernel
theorem op185_28 : rn_op 185 28 = some (.iload_n 2, 1, 0, 0, 0) := by decide +kernel
theorem op185_29 : rn_op 185 29 = some (.imul, 1, 0, 0, 0) := by decide +kernel
theorem op185_30 : rn_op 185 30 = some (.aload_n 0, 1, 0, 0, 0) := by decide +kernel
theorem op185_31 : rn_op 185 31 = some (.getfield 61, 3, 11, 30, 3) := by decide +kernel
theorem op185_34 : rn_op 185 34 = some (.iload_n 2, 1, 0, 0, 0) := by decide +kernel
theorem op185_35 : rn_op 185 35 = some (.iaload, 1, 0, 0, 0) := by decide +kernel
theorem op185_36 : rn_op 185 36 = some (.iadd, 1, 0, 0, 0) := by decide +kernel
theorem op185_37 : rn_op 185 37 = some (.iaload, 1, 0, 0, 0) := by decide +kernel
theorem op185_38 : rn_op 185 38 = some (.iload_n 1, 1, 0, 0, 0) := by decide +kernel
theorem op185_39 : rn_op 185 39 = some (.aload_n 0, 1, 0, 0, 0) := by decide +kernel
theorem op185_40 : rn_op 185 40 = some (.getfield 7, 3, 11, 0, 3) := by decide +kernel
theorem op185_43 : rn_op 185 43 = some (.iconst 1, 1, 0, 0, 0) := by decide +kernel
theorem op185_44 : rn_op 185 44 = some (.iaload, 1, 0, 0, 0) := by decide +kernel
theorem op185_45 : rn_op 185 45 = some (.irem, 1, 0, 0, 0) := by decide +kernel
theorem op185_46 : rn_op 185 46 = some (.invokestatic 238, 3, 177, 3, 0) := by decide +kernel
theorem op185_49 : rn_op 185 49 = some (.iadd, 1, 0, 0, 0) := by decide +kernel
theorem op185_50 : rn_op 185 50 = some (.iaload, 1, 0, 0, 0) := by decide +kernel
theorem op185_51 : rn_op 185 51 = some (.ireturn, 1, 0, 0, 0) := by decide +kernel
def mo_cardAt (n : Nat) (a1 : Int32) (m : rn_Mem) : Option (Int32 × rn_Mem) :=
  if ¬ (m.1 116 1) = 0 then
    (some (a1 / (m.1 116 1))).bind fun (x2 : Int32) =>
    if rn_in x2 4 = true then
      if rn_in (((24 : Int32) * x2) + (m.1 133 x2.toNatClampNeg)) 96 = true then
        if ¬ (m.1 116 1) = 0 then
          (mo_ordered n (m.1 116 1) (m.1 131 (((24 : Int32) * x2) + (m.1 133 x2.toNatClampNeg)).toNatClampNeg) (rn_rem a1 (m.1 116 1)) m).bind fun (r7, m6) =>
          if rn_in (((4 : Int32) * x2) + r7) 16 = true then
            some (m6.1 130 (((4 : Int32) * x2) + r7).toNatClampNeg, m6)
          else none
        else none
      else none
    else none
  else none
set_option maxHeartbeats 4000000 in
set_option maxRecDepth 20000 in
theorem mo_cardAt_ok (xs : List Int32) {d : Nat} (hd : 1 ≤ d) {n : Nat} {a1 : Int32} {m mO : rn_Mem} {rO : Int32} (h : mo_cardAt n a1 m = some (rO, mO)) : rn_R xs d 185 0 (rn_ent 3 [.ref 115, .int a1]) [] (rn_SH, m) (some (.int rO)) (rn_SH, mO) := by
  obtain ⟨d, rfl⟩ : ∃ e, d = e + 1 := ⟨d - 1, by omega⟩
  unfold mo_cardAt at h
  show rn_R xs (d + 1) 185 0 [some (.ref 115), some (.int a1), none] [] (rn_SH, m) (some (.int rO)) (rn_SH, mO)
  refine rx_p (L2 := [some (.ref 115), some (.int a1), none]) (S2 := [.int a1]) (pc2 := 1) op185_0 rfl rfl ?_
  refine rx_p (L2 := [some (.ref 115), some (.int a1), none]) (S2 := [.ref 115, .int a1]) (pc2 := 2) op185_1 rfl rfl ?_
  refine rx_gf (v := .ref 116) (pc2 := 5) op185_2 sp_115 rfl rfl rfl ?_
  refine rx_ic (v := 1) (pc2 := 6) op185_5 (by decide) rfl ?_
  refine rx_ia (j := 1) (pc2 := 7) op185_6 (rn_shlt sp_116) sp_116 (by decide) (by decide) rfl ?_
  obtain ⟨k1, h⟩ := rq_chk h
  refine rx_div (v := a1 / (m.1 116 1)) (pc2 := 8) op185_7 k1 rfl rfl ?_
  obtain ⟨x2, ex2, h⟩ := rq_bv h
  refine rx_s (v := x2) (L2 := [some (.ref 115), some (.int a1), some (.int x2)]) (pc2 := 9) op185_8 ex2 rfl rfl ?_
  refine rx_p (L2 := [some (.ref 115), some (.int a1), some (.int x2)]) (S2 := [.ref 115]) (pc2 := 10) op185_9 rfl rfl ?_
  refine rx_gf (v := .ref 130) (pc2 := 13) op185_10 sp_115 rfl rfl rfl ?_
  refine rx_ic (v := 4) (pc2 := 14) op185_13 (by decide) rfl ?_
  refine rx_p (L2 := [some (.ref 115), some (.int a1), some (.int x2)]) (S2 := [.int x2, .int 4, .ref 130]) (pc2 := 15) op185_14 rfl rfl ?_
  refine rx_p (L2 := [some (.ref 115), some (.int a1), some (.int x2)]) (S2 := [.int ((4 : Int32) * x2), .ref 130]) (pc2 := 16) op185_15 rfl rfl ?_
  refine rx_p (L2 := [some (.ref 115), some (.int a1), some (.int x2)]) (S2 := [.ref 115, .int ((4 : Int32) * x2), .ref 130]) (pc2 := 17) op185_16 rfl rfl ?_
  refine rx_gf (v := .ref 116) (pc2 := 20) op185_17 sp_115 rfl rfl rfl ?_
  refine rx_ic (v := 1) (pc2 := 21) op185_20 (by decide) rfl ?_
  refine rx_ia (j := 1) (pc2 := 22) op185_21 (rn_shlt sp_116) sp_116 (by decide) (by decide) rfl ?_
  refine rx_p (L2 := [some (.ref 115), some (.int a1), some (.int x2)]) (S2 := [.ref 115, .int (m.1 116 1), .int ((4 : Int32) * x2), .ref 130]) (pc2 := 23) op185_22 rfl rfl ?_
  refine rx_gf (v := .ref 131) (pc2 := 26) op185_23 sp_115 rfl rfl rfl ?_
  refine rx_bp (v := 24) (pc2 := 28) op185_26 (by decide) rfl ?_
  refine rx_p (L2 := [some (.ref 115), some (.int a1), some (.int x2)]) (S2 := [.int x2, .int 24, .ref 131, .int (m.1 116 1), .int ((4 : Int32) * x2), .ref 130]) (pc2 := 29) op185_28 rfl rfl ?_
  refine rx_p (L2 := [some (.ref 115), some (.int a1), some (.int x2)]) (S2 := [.int ((24 : Int32) * x2), .ref 131, .int (m.1 116 1), .int ((4 : Int32) * x2), .ref 130]) (pc2 := 30) op185_29 rfl rfl ?_
  refine rx_p (L2 := [some (.ref 115), some (.int a1), some (.int x2)]) (S2 := [.ref 115, .int ((24 : Int32) * x2), .ref 131, .int (m.1 116 1), .int ((4 : Int32) * x2), .ref 130]) (pc2 := 31) op185_30 rfl rfl ?_
  refine rx_gf (v := .ref 133) (pc2 := 34) op185_31 sp_115 rfl rfl rfl ?_
  refine rx_p (L2 := [some (.ref 115), some (.int a1), some (.int x2)]) (S2 := [.int x2, .ref 133, .int ((24 : Int32) * x2), .ref 131, .int (m.1 116 1), .int ((4 : Int32) * x2), .ref 130]) (pc2 := 35) op185_34 rfl rfl ?_
  obtain ⟨k3, h⟩ := rq_chk h
  refine rx_ia (pc2 := 36) op185_35 (rn_shlt sp_133) sp_133 k3 rfl rfl ?_
  refine rx_p (L2 := [some (.ref 115), some (.int a1), some (.int x2)]) (S2 := [.int (((24 : Int32) * x2) + (m.1 133 x2.toNatClampNeg)), .ref 131, .int (m.1 116 1), .int ((4 : Int32) * x2), .ref 130]) (pc2 := 37) op185_36 rfl rfl ?_
  obtain ⟨k4, h⟩ := rq_chk h
  refine rx_ia (pc2 := 38) op185_37 (rn_shlt sp_131) sp_131 k4 rfl rfl ?_
  refine rx_p (L2 := [some (.ref 115), some (.int a1), some (.int x2)]) (S2 := [.int a1, .int (m.1 131 (((24 : Int32) * x2) + (m.1 133 x2.toNatClampNeg)).toNatClampNeg), .int (m.1 116 1), .int ((4 : Int32) * x2), .ref 130]) (pc2 := 39) op185_38 rfl rfl ?_
  refine rx_p (L2 := [some (.ref 115), some (.int a1), some (.int x2)]) (S2 := [.ref 115, .int a1, .int (m.1 131 (((24 : Int32) * x2) + (m.1 133 x2.toNatClampNeg)).toNatClampNeg), .int (m.1 116 1), .int ((4 : Int32) * x2), .ref 130]) (pc2 := 40) op185_39 rfl rfl ?_
  refine rx_gf (v := .ref 116) (pc2 := 43) op185_40 sp_115 rfl rfl rfl ?_
  refine rx_ic (v := 1) (pc2 := 44) op185_43 (by decide) rfl ?_
  refine rx_ia (j := 1) (pc2 := 45) op185_44 (rn_shlt sp_116) sp_116 (by decide) (by decide) rfl ?_
  obtain ⟨k5, h⟩ := rq_chk h
  refine rx_rem (v := rn_rem a1 (m.1 116 1)) (pc2 := 46) op185_45 k5 rfl rfl ?_
  obtain ⟨⟨r7, m6⟩, f8, h⟩ := rq_bind h
  try dsimp only at h
  refine ry_is (vs := [.int (m.1 116 1), .int (m.1 131 (((24 : Int32) * x2) + (m.1 133 x2.toNatClampNeg)).toNatClampNeg), .int (rn_rem a1 (m.1 116 1))]) (T := [.int ((4 : Int32) * x2), .ref 130]) (pc2 := 49) op185_46 (by decide) ms_177 (by decide) rfl rfl (Nat.le_of_ble_eq_true rfl) (Nat.le_of_ble_eq_true rfl) (mo_ordered_ok xs (by omega)  f8) rfl ?_
  show rn_R _ _ _ _ _ [.int r7, .int ((4 : Int32) * x2), .ref 130] _ _ _
  refine rx_p (L2 := [some (.ref 115), some (.int a1), some (.int x2)]) (S2 := [.int (((4 : Int32) * x2) + r7), .ref 130]) (pc2 := 50) op185_49 rfl rfl ?_
  obtain ⟨k9, h⟩ := rq_chk h
  refine rx_ia (pc2 := 51) op185_50 (rn_shlt sp_130) sp_130 k9 rfl rfl ?_
  obtain ⟨rfl, rfl⟩ := rq_ret h
  exact ry_ri op185_51 ms_185 rfl
/-! mo_keepPlay -/
theorem op184_0 : rn_op 184 0 = some (.aload_n 0, 1, 0, 0, 0) := by decide +kernel
theorem op184_1 : rn_op 184 1 = some (.getfield 212, 3, 11, 11, 2) := by decide +kernel
theorem op184_4 : rn_op 184 4 = some (.ifCond .eq 33, 3, 0, 0, 0) := by decide +kernel
theorem op184_7 : rn_op 184 7 = some (.aload_n 0, 1, 0, 0, 0) := by decide +kernel
theorem op184_8 : rn_op 184 8 = some (.aload_n 0, 1, 0, 0, 0) := by decide +kernel
theorem op184_9 : rn_op 184 9 = some (.getfield 67, 3, 11, 32, 3) := by decide +kernel
theorem op184_12 : rn_op 184 12 = some (.iconst 0, 1, 0, 0, 0) := by decide +kernel
theorem op184_13 : rn_op 184 13 = some (.iaload, 1, 0, 0, 0) := by decide +kernel
theorem op184_14 : rn_op 184 14 = some (.putfield 226, 3, 11, 15, 0) := by decide +kernel
theorem op184_17 : rn_op 184 17 = some (.aload_n 0, 1, 0, 0, 0) := by decide +kernel
theorem op184_18 : rn_op 184 18 = some (.aload_n 0, 1, 0, 0, 0) := by decide +kernel
theorem op184_19 : rn_op 184 19 = some (.getfield 226, 3, 11, 15, 0) := by decide +kernel
theorem op184_22 : rn_op 184 22 = some (.ifCond .ne 7, 3, 0, 0, 0) := by decide +kernel
theorem op184_25 : rn_op 184 25 = some (.lconst 1, 1, 0, 0, 0) := by decide +kernel
theorem op184_26 : rn_op 184 26 = some (.goto 7, 3, 0, 0, 0) := by decide +kernel
theorem op184_29 : rn_op 184 29 = some (.aload_n 0, 1, 0, 0, 0) := by decide +kernel
theorem op184_30 : rn_op 184 30 = some (.getfield 222, 3, 11, 14, 1) := by decide +kernel
theorem op184_33 : rn_op 184 33 = some (.putfield 222, 3, 11, 14, 1) := by decide +kernel
theorem op184_36 : rn_op 184 36 = some (.return_, 1, 0, 0, 0) := by decide +kernel
theorem op184_37 : rn_op 184 37 = some (.aload_n 0, 1, 0, 0, 0) := by decide +kernel
theorem op184_38 : rn_op 184 38 = some (.getfield 222, 3, 11, 14, 1) := by decide +kernel
theorem op184_41 : rn_op 184 41 = some (.lconst 0, 1, 0, 0, 0) := by decide +kernel
theorem op184_42 : rn_op 184 42 = some (.lcmp, 1, 0, 0, 0) := by decide +kernel
theorem op184_43 : rn_op 184 43 = some (.ifCond .eq 18, 3, 0, 0, 0) := by decide +kernel
theorem op184_46 : rn_op 184 46 = some (.aload_n 0, 1, 0, 0, 0) := by decide +kernel
theorem op184_47 : rn_op 184 47 = some (.getfield 49, 3, 11, 26, 3) := by decide +kernel
theorem op184_50 : rn_op 184 50 = some (.iconst 0, 1, 0, 0, 0) := by decide +kernel
theorem op184_51 : rn_op 184 51 = some (.iaload, 1, 0, 0, 0) := by decide +kernel
theorem op184_52 : rn_op 184 52 = some (.aload_n 0, 1, 0, 0, 0) := by decide +kernel
theorem op184_53 : rn_op 184 53 = some (.getfield 34, 3, 11, 20, 3) := by decide +kernel
theorem op184_56 : rn_op 184 56 = some (.iconst 0, 1, 0, 0, 0) := by decide +kernel
theorem op184_57 : rn_op 184 57 = some (.iaload, 1, 0, 0, 0) := by decide +kernel
theorem op184_58 : rn_op 184 58 = some (.if_icmp .ge 7, 3, 0, 0, 0) := by decide +kernel
theorem op184_61 : rn_op 184 61 = some (.iconst 1, 1, 0, 0, 0) := by decide +kernel
theorem op184_62 : rn_op 184 62 = some (.goto 4, 3, 0, 0, 0) := by decide +kernel
theorem op184_65 : rn_op 184 65 = some (.iconst 0, 1, 0, 0, 0) := by decide +kernel
theorem op184_66 : rn_op 184 66 = some (.istore_n 1, 1, 0, 0, 0) := by decide +kernel
theorem op184_67 : rn_op 184 67 = some (.aload_n 0, 1, 0, 0, 0) := by decide +kernel
theorem op184_68 : rn_op 184 68 = some (.getfield 222, 3, 11, 14, 1) := by decide +kernel
theorem op184_71 : rn_op 184 71 = some (.lconst 0, 1, 0, 0, 0) := by decide +kernel
theorem op184_72 : rn_op 184 72 = some (.lcmp, 1, 0, 0, 0) := by decide +kernel
theorem op184_73 : rn_op 184 73 = some (.ifCond .le 22, 3, 0, 0, 0) := by decide +kernel
theorem op184_76 : rn_op 184 76 = some (.aload_n 0, 1, 0, 0, 0) := by decide +kernel
theorem op184_77 : rn_op 184 77 = some (.getfield 49, 3, 11, 26, 3) := by decide +kernel
theorem op184_80 : rn_op 184 80 = some (.iconst 0, 1, 0, 0, 0) := by decide +kernel
theorem op184_81 : rn_op 184 81 = some (.iaload, 1, 0, 0, 0) := by decide +kernel
theorem op184_82 : rn_op 184 82 = some (.aload_n 0, 1, 0, 0, 0) := by decide +kernel
theorem op184_83 : rn_op 184 83 = some (.getfield 34, 3, 11, 20, 3) := by decide +kernel
theorem op184_86 : rn_op 184 86 = some (.iconst 0, 1, 0, 0, 0) := by decide +kernel
theorem op184_87 : rn_op 184 87 = some (.iaload, 1, 0, 0, 0) := by decide +kernel
theorem op184_88 : rn_op 184 88 = some (.if_icmp .ne 7, 3, 0, 0, 0) := by decide +kernel
theorem op184_91 : rn_op 184 91 = some (.iconst 1, 1, 0, 0, 0) := by decide +kernel
theorem op184_92 : rn_op 184 92 = some (.goto 4, 3, 0, 0, 0) := by decide +kernel
theorem op184_95 : rn_op 184 95 = some (.iconst 0, 1, 0, 0, 0) := by decide +kernel
theorem op184_96 : rn_op 184 96 = some (.istore_n 2, 1, 0, 0, 0) := by decide +kernel
theorem op184_97 : rn_op 184 97 = some (.iconst 0, 1, 0, 0, 0) := by decide +kernel
theorem op184_98 : rn_op 184 98 = some (.istore_n 3, 1, 0, 0, 0) := by decide +kernel
theorem op184_99 : rn_op 184 99 = some (.iload_n 3, 1, 0, 0, 0) := by decide +kernel
theorem op184_100 : rn_op 184 100 = some (.aload_n 0, 1, 0, 0, 0) := by decide +kernel
theorem op184_101 : rn_op 184 101 = some (.invokevirtual 167, 3, 155, 1, 11) := by decide +kernel
theorem op184_104 : rn_op 184 104 = some (.if_icmp .ge 57, 3, 0, 0, 0) := by decide +kernel
theorem op184_107 : rn_op 184 107 = some (.iload_n 2, 1, 0, 0, 0) := by decide +kernel
theorem op184_108 : rn_op 184 108 = some (.ifCond .eq 53, 3, 0, 0, 0) := by decide +kernel
theorem op184_111 : rn_op 184 111 = some (.aload_n 0, 1, 0, 0, 0) := by decide +kernel
theorem op184_112 : rn_op 184 112 = some (.iload_n 3, 1, 0, 0, 0) := by decide +kernel
theorem op184_113 : rn_op 184 113 = some (.invokevirtual 263, 3, 185, 2, 11) := by decide +kernel
theorem op184_116 : rn_op 184 116 = some (.aload_n 0, 1, 0, 0, 0) := by decide +kernel
theorem op184_117 : rn_op 184 117 = some (.getfield 34, 3, 11, 20, 3) := by decide +kernel
theorem op184_120 : rn_op 184 120 = some (.iconst 1, 1, 0, 0, 0) := by decide +kernel
theorem op184_121 : rn_op 184 121 = some (.iload_n 3, 1, 0, 0, 0) := by decide +kernel
theorem op184_122 : rn_op 184 122 = some (.iadd, 1, 0, 0, 0) := by decide +kernel
theorem op184_123 : rn_op 184 123 = some (.iaload, 1, 0, 0, 0) := by decide +kernel
theorem op184_124 : rn_op 184 124 = some (.if_icmp .ge 7, 3, 0, 0, 0) := by decide +kernel
theorem op184_127 : rn_op 184 127 = some (.iconst 1, 1, 0, 0, 0) := by decide +kernel
theorem op184_128 : rn_op 184 128 = some (.goto 4, 3, 0, 0, 0) := by decide +kernel
theorem op184_131 : rn_op 184 131 = some (.iconst 0, 1, 0, 0, 0) := by decide +kernel
theorem op184_132 : rn_op 184 132 = some (.istore_n 1, 1, 0, 0, 0) := by decide +kernel
theorem op184_133 : rn_op 184 133 = some (.aload_n 0, 1, 0, 0, 0) := by decide +kernel
theorem op184_134 : rn_op 184 134 = some (.iload_n 3, 1, 0, 0, 0) := by decide +kernel
theorem op184_135 : rn_op 184 135 = some (.invokevirtual 263, 3, 185, 2, 11) := by decide +kernel
theorem op184_138 : rn_op 184 138 = some (.aload_n 0, 1, 0, 0, 0) := by decide +kernel
theorem op184_139 : rn_op 184 139 = some (.getfield 34, 3, 11, 20, 3) := by decide +kernel
theorem op184_142 : rn_op 184 142 = some (.iconst 1, 1, 0, 0, 0) := by decide +kernel
theorem op184_143 : rn_op 184 143 = some (.iload_n 3, 1, 0, 0, 0) := by decide +kernel
theorem op184_144 : rn_op 184 144 = some (.iadd, 1, 0, 0, 0) := by decide +kernel
theorem op184_145 : rn_op 184 145 = some (.iaload, 1, 0, 0, 0) := by decide +kernel
theorem op184_146 : rn_op 184 146 = some (.if_icmp .ne 7, 3, 0, 0, 0) := by decide +kernel
theorem op184_149 : rn_op 184 149 = some (.iconst 1, 1, 0, 0, 0) := by decide +kernel
theorem op184_150 : rn_op 184 150 = some (.goto 4, 3, 0, 0, 0) := by decide +kernel
theorem op184_153 : rn_op 184 153 = some (.iconst 0, 1, 0, 0, 0) := by decide +kernel
theorem op184_154 : rn_op 184 154 = some (.istore_n 2, 1, 0, 0, 0) := by decide +kernel
theorem op184_155 : rn_op 184 155 = some (.iinc 3 1, 3, 0, 0, 0) := by decide +kernel
theorem op184_158 : rn_op 184 158 = some (.goto (-59), 3, 0, 0, 0) := by decide +kernel
theorem op184_161 : rn_op 184 161 = some (.iload_n 1, 1, 0, 0, 0) := by decide +kernel
theorem op184_162 : rn_op 184 162 = some (.ifCond .eq 44, 3, 0, 0, 0) := by decide +kernel
theorem op184_165 : rn_op 184 165 = some (.aload_n 0, 1, 0, 0, 0) := by decide +kernel
theorem op184_166 : rn_op 184 166 = some (.getfield 34, 3, 11, 20, 3) := by decide +kernel
theorem op184_169 : rn_op 184 169 = some (.iconst 0, 1, 0, 0, 0) := by decide +kernel
theorem op184_170 : rn_op 184 170 = some (.aload_n 0, 1, 0, 0, 0) := by decide +kernel
theorem op184_171 : rn_op 184 171 = some (.getfield 49, 3, 11, 26, 3) := by decide +kernel
theorem op184_174 : rn_op 184 174 = some (.iconst 0, 1, 0, 0, 0) := by decide +kernel
theorem op184_175 : rn_op 184 175 = some (.iaload, 1, 0, 0, 0) := by decide +kernel
theorem op184_176 : rn_op 184 176 = some (.iastore, 1, 0, 0, 0) := by decide +kernel
theorem op184_177 : rn_op 184 177 = some (.iconst 0, 1, 0, 0, 0) := by decide +kernel
theorem op184_178 : rn_op 184 178 = some (.istore_n 3, 1, 0, 0, 0) := by decide +kernel
theorem op184_179 : rn_op 184 179 = some (.iload_n 3, 1, 0, 0, 0) := by decide +kernel
theorem op184_180 : rn_op 184 180 = some (.aload_n 0, 1, 0, 0, 0) := by decide +kernel
theorem op184_181 : rn_op 184 181 = some (.invokevirtual 167, 3, 155, 1, 11) := by decide +kernel
theorem op184_184 : rn_op 184 184 = some (.if_icmp .ge 22, 3, 0, 0, 0) := by decide +kernel
theorem op184_187 : rn_op 184 187 = some (.aload_n 0, 1, 0, 0, 0) := by decide +kernel
theorem op184_188 : rn_op 184 188 = some (.getfield 34, 3, 11, 20, 3) := by decide +kernel
theorem op184_191 : rn_op 184 191 = some (.iconst 1, 1, 0, 0, 0) := by decide +kernel
theorem op184_192 : rn_op 184 192 = some (.iload_n 3, 1, 0, 0, 0) := by decide +kernel
theorem op184_193 : rn_op 184 193 = some (.iadd, 1, 0, 0, 0) := by decide +kernel
theorem op184_194 : rn_op 184 194 = some (.aload_n 0, 1, 0, 0, 0) := by decide +kernel
theorem op184_195 : rn_op 184 195 = some (.iload_n 3, 1, 0, 0, 0) := by decide +kernel
theorem op184_196 : rn_op 184 196 = some (.invokevirtual 263, 3, 185, 2, 11) := by decide +kernel
theorem op184_199 : rn_op 184 199 = some (.iastore, 1, 0, 0, 0) := by decide +kernel
theorem op184_200 : rn_op 184 200 = some (.iinc 3 1, 3, 0, 0, 0) := by decide +kernel
theorem op184_203 : rn_op 184 203 = some (.goto (-24), 3, 0, 0, 0) := by decide +kernel
theorem op184_206 : rn_op 184 206 = some (.aload_n 0, 1, 0, 0, 0) := by decide +kernel
theorem op184_207 : rn_op 184 207 = some (.dup, 1, 0, 0, 0) := by decide +kernel
theorem op184_208 : rn_op 184 208 = some (.getfield 222, 3, 11, 14, 1) := by decide +kernel
theorem op184_211 : rn_op 184 211 = some (.lconst 1, 1, 0, 0, 0) := by decide +kernel
theorem op184_212 : rn_op 184 212 = some (.ladd, 1, 0, 0, 0) := by decide +kernel
theorem op184_213 : rn_op 184 213 = some (.putfield 222, 3, 11, 14, 1) := by decide +kernel
theorem op184_216 : rn_op 184 216 = some (.iconst 0, 1, 0, 0, 0) := by decide +kernel
theorem op184_217 : rn_op 184 217 = some (.istore_n 3, 1, 0, 0, 0) := by decide +kernel
theorem op184_218 : rn_op 184 218 = some (.iload_n 3, 1, 0, 0, 0) := by decide +kernel
theorem op184_219 : rn_op 184 219 = some (.bipush 16, 2, 0, 0, 0) := by decide +kernel
theorem op184_221 : rn_op 184 221 = some (.if_icmp .ge 38, 3, 0, 0, 0) := by decide +kernel
theorem op184_224 : rn_op 184 224 = some (.aload_n 0, 1, 0, 0, 0) := by decide +kernel
theorem op184_225 : rn_op 184 225 = some (.getfield 22, 3, 11, 16, 3) := by decide +kernel
theorem op184_228 : rn_op 184 228 = some (.iload_n 3, 1, 0, 0, 0) := by decide +kernel
theorem op184_229 : rn_op 184 229 = some (.dup2, 1, 0, 0, 0) := by decide +kernel
theorem op184_230 : rn_op 184 230 = some (.iaload, 1, 0, 0, 0) := by decide +kernel
theorem op184_231 : rn_op 184 231 = some (.aload_n 0, 1, 0, 0, 0) := by decide +kernel
theorem op184_232 : rn_op 184 232 = some (.iload_n 3, 1, 0, 0, 0) := by decide +kernel
theorem op184_233 : rn_op 184 233 = some (.invokevirtual 190, 3, 169, 2, 11) := by decide +kernel
theorem op184_236 : rn_op 184 236 = some (.ifCond .eq 14, 3, 0, 0, 0) := by decide +kernel
theorem op184_239 : rn_op 184 239 = some (.iconst 1, 1, 0, 0, 0) := by decide +kernel
theorem op184_240 : rn_op 184 240 = some (.aload_n 0, 1, 0, 0, 0) := by decide +kernel
theorem op184_241 : rn_op 184 241 = some (.getfield 70, 3, 11, 33, 3) := by decide +kernel
theorem op184_244 : rn_op 184 244 = some (.iload_n 3, 1, 0, 0, 0) := by decide +kernel
theorem op184_245 : rn_op 184 245 = some (.iaload, 1, 0, 0, 0) := by decide +kernel
theorem op184_246 : rn_op 184 246 = some (.ishl, 1, 0, 0, 0) := by decide +kernel
theorem op184_247 : rn_op 184 247 = some (.goto 4, 3, 0, 0, 0) := by decide +kernel
theorem op184_250 : rn_op 184 250 = some (.iconst 0, 1, 0, 0, 0) := by decide +kernel
theorem op184_251 : rn_op 184 251 = some (.ior, 1, 0, 0, 0) := by decide +kernel
theorem op184_252 : rn_op 184 252 = some (.iastore, 1, 0, 0, 0) := by decide +kernel
theorem op184_253 : rn_op 184 253 = some (.iinc 3 1, 3, 0, 0, 0) := by decide +kernel
theorem op184_256 : rn_op 184 256 = some (.goto (-38), 3, 0, 0, 0) := by decide +kernel
theorem op184_259 : rn_op 184 259 = some (.iconst 0, 1, 0, 0, 0) := by decide +kernel
theorem op184_260 : rn_op 184 260 = some (.istore_n 3, 1, 0, 0, 0) := by decide +kernel
theorem op184_261 : rn_op 184 261 = some (.iload_n 3, 1, 0, 0, 0) := by decide +kernel
theorem op184_262 : rn_op 184 262 = some (.aload_n 0, 1, 0, 0, 0) := by decide +kernel
theorem op184_263 : rn_op 184 263 = some (.getfield 229, 3, 11, 21, 0) := by decide +kernel
theorem op184_266 : rn_op 184 266 = some (.if_icmp .ge 31, 3, 0, 0, 0) := by decide +kernel
theorem op184_269 : rn_op 184 269 = some (.aload_n 0, 1, 0, 0, 0) := by decide +kernel
theorem op184_270 : rn_op 184 270 = some (.getfield 25, 3, 11, 17, 3) := by decide +kernel
theorem op184_273 : rn_op 184 273 = some (.iload_n 3, 1, 0, 0, 0) := by decide +kernel
theorem op184_274 : rn_op 184 274 = some (.dup2, 1, 0, 0, 0) := by decide +kernel
theorem op184_275 : rn_op 184 275 = some (.iaload, 1, 0, 0, 0) := by decide +kernel
theorem op184_276 : rn_op 184 276 = some (.iconst 1, 1, 0, 0, 0) := by decide +kernel
theorem op184_277 : rn_op 184 277 = some (.aload_n 0, 1, 0, 0, 0) := by decide +kernel
theorem op184_278 : rn_op 184 278 = some (.getfield 43, 3, 11, 24, 3) := by decide +kernel
theorem op184_281 : rn_op 184 281 = some (.aload_n 0, 1, 0, 0, 0) := by decide +kernel
theorem op184_282 : rn_op 184 282 = some (.getfield 37, 3, 11, 22, 3) := by decide +kernel
theorem op184_285 : rn_op 184 285 = some (.iload_n 3, 1, 0, 0, 0) := by decide +kernel
theorem op184_286 : rn_op 184 286 = some (.iaload, 1, 0, 0, 0) := by decide +kernel
theorem op184_287 : rn_op 184 287 = some (.iaload, 1, 0, 0, 0) := by decide +kernel
theorem op184_288 : rn_op 184 288 = some (.ishl, 1, 0, 0, 0) := by decide +kernel
theorem op184_289 : rn_op 184 289 = some (.ior, 1, 0, 0, 0) := by decide +kernel
theorem op184_290 : rn_op 184 290 = some (.iastore, 1, 0, 0, 0) := by decide +kernel
theorem op184_291 : rn_op 184 291 = some (.iinc 3 1, 3, 0, 0, 0) := by decide +kernel
theorem op184_294 : rn_op 184 294 = some (.goto (-33), 3, 0, 0, 0) := by decide +kernel
theorem op184_297 : rn_op 184 297 = some (.iconst 0, 1, 0, 0, 0) := by decide +kernel
theorem op184_298 : rn_op 184 298 = some (.istore_n 3, 1, 0, 0, 0) := by decide +kernel
theorem op184_299 : rn_op 184 299 = some (.iload_n 3, 1, 0, 0, 0) := by decide +kernel
theorem op184_300 : rn_op 184 300 = some (.aload_n 0, 1, 0, 0, 0) := by decide +kernel
theorem op184_301 : rn_op 184 301 = some (.getfield 7, 3, 11, 0, 3) := by decide +kernel
theorem op184_304 : rn_op 184 304 = some (.iconst 2, 1, 0, 0, 0) := by decide +kernel
theorem op184_305 : rn_op 184 305 = some (.iaload, 1, 0, 0, 0) := by decide +kernel
theorem op184_306 : rn_op 184 306 = some (.if_icmp .ge 43, 3, 0, 0, 0) := by decide +kernel
theorem op184_309 : rn_op 184 309 = some (.aload_n 0, 1, 0, 0, 0) := by decide +kernel
theorem op184_310 : rn_op 184 310 = some (.getfield 28, 3, 11, 18, 3) := by decide +kernel
theorem op184_313 : rn_op 184 313 = some (.iload_n 3, 1, 0, 0, 0) := by decide +kernel
theorem op184_314 : rn_op 184 314 = some (.dup2, 1, 0, 0, 0) := by decide +kernel
theorem op184_315 : rn_op 184 315 = some (.iaload, 1, 0, 0, 0) := by decide +kernel
theorem op184_316 : rn_op 184 316 = some (.iconst 1, 1, 0, 0, 0) := by decide +kernel
theorem op184_317 : rn_op 184 317 = some (.aload_n 0, 1, 0, 0, 0) := by decide +kernel
theorem op184_318 : rn_op 184 318 = some (.getfield 49, 3, 11, 26, 3) := by decide +kernel
theorem op184_321 : rn_op 184 321 = some (.iload_n 3, 1, 0, 0, 0) := by decide +kernel
theorem op184_322 : rn_op 184 322 = some (.iaload, 1, 0, 0, 0) := by decide +kernel
theorem op184_323 : rn_op 184 323 = some (.ishl, 1, 0, 0, 0) := by decide +kernel
theorem op184_324 : rn_op 184 324 = some (.ior, 1, 0, 0, 0) := by decide +kernel
theorem op184_325 : rn_op 184 325 = some (.iastore, 1, 0, 0, 0) := by decide +kernel
theorem op184_326 : rn_op 184 326 = some (.aload_n 0, 1, 0, 0, 0) := by decide +kernel
theorem op184_327 : rn_op 184 327 = some (.getfield 31, 3, 11, 19, 3) := by decide +kernel
theorem op184_330 : rn_op 184 330 = some (.iload_n 3, 1, 0, 0, 0) := by decide +kernel
theorem op184_331 : rn_op 184 331 = some (.dup2, 1, 0, 0, 0) := by decide +kernel
theorem op184_332 : rn_op 184 332 = some (.iaload, 1, 0, 0, 0) := by decide +kernel
theorem op184_333 : rn_op 184 333 = some (.iconst 1, 1, 0, 0, 0) := by decide +kernel
theorem op184_334 : rn_op 184 334 = some (.aload_n 0, 1, 0, 0, 0) := by decide +kernel
theorem op184_335 : rn_op 184 335 = some (.getfield 46, 3, 11, 25, 3) := by decide +kernel
theorem op184_338 : rn_op 184 338 = some (.iload_n 3, 1, 0, 0, 0) := by decide +kernel
theorem op184_339 : rn_op 184 339 = some (.iaload, 1, 0, 0, 0) := by decide +kernel
theorem op184_340 : rn_op 184 340 = some (.ishl, 1, 0, 0, 0) := by decide +kernel
theorem op184_341 : rn_op 184 341 = some (.ior, 1, 0, 0, 0) := by decide +kernel
theorem op184_342 : rn_op 184 342 = some (.iastore, 1, 0, 0, 0) := by decide +kernel
theorem op184_343 : rn_op 184 343 = some (.iinc 3 1, 3, 0, 0, 0) := by decide +kernel
theorem op184_346 : rn_op 184 346 = some (.goto (-47), 3, 0, 0, 0) := by decide +kernel
theorem op184_349 : rn_op 184 349 = some (.return_, 1, 0, 0, 0) := by decide +kernel
def mo_keepPlay_l99  : Nat → Int32 → Int32 → Int32 → rn_Mem → Option (Int32 × rn_Mem)
  | 0, _, _, _, _ => none
  | n + 1, a1, a2, a3, m =>
    (mo_size n m).bind fun (r14, m13) =>
    if a3 < r14 then
      if a2 = 0 then
        some (a1, m13)
      else
        (mo_cardAt n a3 m13).bind fun (r19, m18) =>
        if rn_in ((1 : Int32) + a3) 13 = true then
          (show Option (Int32) from
            if r19 < (m18.1 124 ((1 : Int32) + a3).toNatClampNeg) then
              some (1)
            else
              some (0)).bind fun x25 =>
          (mo_cardAt n a3 m18).bind fun (r27, m26) =>
          if rn_in ((1 : Int32) + a3) 13 = true then
            (show Option (Int32) from
              if r27 = (m26.1 124 ((1 : Int32) + a3).toNatClampNeg) then
                some (1)
              else
                some (0)).bind fun x32 =>
            (some (a3 + 1)).bind fun (x33 : Int32) =>
            mo_keepPlay_l99 n x25 x32 x33 m26
          else none
        else none
    else
      some (a1, m13)
def mo_keepPlay_l179  : Nat → Int32 → rn_Mem → Option (rn_Mem)
  | 0, _, _ => none
  | n + 1, a3, m =>
    (mo_size n m).bind fun (r44, m43) =>
    if a3 < r44 then
      (mo_cardAt n a3 m43).bind fun (r48, m47) =>
      if rn_in ((1 : Int32) + a3) 13 = true then
        (some (rm_i m47 124 ((1 : Int32) + a3).toNatClampNeg r48)).bind fun (m50 : rn_Mem) =>
        (some (a3 + 1)).bind fun (x52 : Int32) =>
        mo_keepPlay_l179 n x52 m50
      else none
    else
      some m43
def mo_keepPlay_l218  : Nat → Int32 → rn_Mem → Option (rn_Mem)
  | 0, _, _ => none
  | n + 1, a3, m =>
    if a3 < 16 then
      if rn_in a3 16 = true then
        (mo_isInPack n a3 m).bind fun (r68, m67) =>
        (show Option (Int32) from
          if r68 = 0 then
            some (0)
          else
            if rn_in a3 16 = true then
              some ((1 : Int32) <<< ((m67.1 136 a3.toNatClampNeg) &&& 31))
            else none).bind fun x74 =>
        if rn_in a3 16 = true then
          (some (rm_i m67 120 a3.toNatClampNeg ((m.1 120 a3.toNatClampNeg) ||| x74))).bind fun (m75 : rn_Mem) =>
          (some (a3 + 1)).bind fun (x77 : Int32) =>
          mo_keepPlay_l218 n x77 m75
        else none
      else none
    else
      some m
def mo_keepPlay_l261  : Nat → Int32 → rn_Mem → Option (rn_Mem)
  | 0, _, _ => none
  | n + 1, a3, m =>
    if a3 < (m.1 115 21) then
      if rn_in a3 3 = true then
        if rn_in a3 3 = true then
          if rn_in (m.1 125 a3.toNatClampNeg) 48 = true then
            if rn_in a3 3 = true then
              (some (rm_i m 121 a3.toNatClampNeg ((m.1 121 a3.toNatClampNeg) ||| ((1 : Int32) <<< ((m.1 127 (m.1 125 a3.toNatClampNeg).toNatClampNeg) &&& 31))))).bind fun (m89 : rn_Mem) =>
              (some (a3 + 1)).bind fun (x91 : Int32) =>
              mo_keepPlay_l261 n x91 m89
            else none
          else none
        else none
      else none
    else
      some m
def mo_keepPlay_l299  : Nat → Int32 → rn_Mem → Option (rn_Mem)
  | 0, _, _ => none
  | n + 1, a3, m =>
    if a3 < (m.1 116 2) then
      if rn_in a3 4 = true then
        if rn_in a3 4 = true then
          if rn_in a3 4 = true then
            (some (rm_i m 122 a3.toNatClampNeg ((m.1 122 a3.toNatClampNeg) ||| ((1 : Int32) <<< ((m.1 129 a3.toNatClampNeg) &&& 31))))).bind fun (m101 : rn_Mem) =>
            if rn_in a3 4 = true then
              if rn_in a3 4 = true then
                if rn_in a3 4 = true then
                  (some (rm_i m101 123 a3.toNatClampNeg ((m101.1 123 a3.toNatClampNeg) ||| ((1 : Int32) <<< ((m101.1 128 a3.toNatClampNeg) &&& 31))))).bind fun (m105 : rn_Mem) =>
                  (some (a3 + 1)).bind fun (x107 : Int32) =>
                  mo_keepPlay_l299 n x107 m105
                else none
              else none
            else none
          else none
        else none
      else none
    else
      some m
def mo_keepPlay (n : Nat)  (m : rn_Mem) : Option (rn_Mem) :=
  if (m.1 115 11) = 0 then
    (show Option (Int32) from
      if (lg_cmp (m.2 115 14) 0) = 0 then
        some (1)
      else
        if (m.1 129 0) < (m.1 124 0) then
          some (1)
        else
          some (0)).bind fun x7 =>
    (show Option (Int32) from
      if 0 < (lg_cmp (m.2 115 14) 0) then
        if (m.1 129 0) = (m.1 124 0) then
          some (1)
        else
          some (0)
      else
        some (0)).bind fun x12 =>
    (mo_keepPlay_l99 n x7 x12 0 m).bind fun (x37, m36) =>
    (show Option (rn_Mem) from
      if x37 = 0 then
        some (m36)
      else
        (some (rm_i m36 124 0 (m36.1 129 0))).bind fun (m41 : rn_Mem) =>
        (mo_keepPlay_l179 n 0 m41).bind fun m54 =>
        some (m54)).bind fun m62 =>
    (some (rm_j m62 115 14 ((m62.2 115 14) + 1))).bind fun (m63 : rn_Mem) =>
    (mo_keepPlay_l218 n 0 m63).bind fun m80 =>
    (mo_keepPlay_l261 n 0 m80).bind fun m93 =>
    (mo_keepPlay_l299 n 0 m93).bind fun m109 =>
    some m109
  else
    (some (rm_i m 115 15 (m.1 135 0))).bind fun (m121 : rn_Mem) =>
    (show Option (Int64) from
      if (m121.1 115 15) = 0 then
        some (1)
      else
        some (m121.2 115 14)).bind fun x127 =>
    (some (rm_j m121 115 14 x127)).bind fun (m128 : rn_Mem) =>
    some m128
set_option maxHeartbeats 4000000 in
set_option maxRecDepth 20000 in
theorem mo_keepPlay_l99_ok (xs : List Int32) {d : Nat} (hd : 2 ≤ d + 1) {r : Option Value} {τ : rn_H} {out : Int32 × rn_Mem} (hr : ∀ (z1 : Int32) (mO : rn_Mem), out = (z1, mO) → ∀ (o2 o3 : Option Value), rn_R xs (d + 1) 184 161 [some (.ref 115), some (.int z1), o2, o3] [] (rn_SH, mO) r τ) : ∀ (n : Nat) (a1 : Int32) (a2 : Int32) (a3 : Int32) (m : rn_Mem), mo_keepPlay_l99 n a1 a2 a3 m = some out → rn_R xs (d + 1) 184 99 [some (.ref 115), some (.int a1), some (.int a2), some (.int a3)] [] (rn_SH, m) r τ := by
  intro n
  induction n with
  | zero =>
    intro _ _ _ _ h
    cases h
  | succ n ih =>
    intro a1 a2 a3 m h
    unfold mo_keepPlay_l99 at h
    try dsimp only at h
    refine rx_p (L2 := [some (.ref 115), some (.int a1), some (.int a2), some (.int a3)]) (S2 := [.int a3]) (pc2 := 100) op184_99 rfl rfl ?_
    refine rx_p (L2 := [some (.ref 115), some (.int a1), some (.int a2), some (.int a3)]) (S2 := [.ref 115, .int a3]) (pc2 := 101) op184_100 rfl rfl ?_
    obtain ⟨⟨r14, m13⟩, f15, h⟩ := rq_bind h
    try dsimp only at h
    refine ry_iv (p := 115) (vs := []) (T := [.int a3]) (pc2 := 104) op184_101 ms_155 (by decide) rfl rfl (Nat.le_of_ble_eq_true rfl) (Nat.le_of_ble_eq_true rfl) sp_115 (mo_size_ok xs (by omega)  f15) rfl ?_
    show rn_R _ _ _ _ _ [.int r14, .int a3] _ _ _
    refine ry_ic_ge (tgt := 161) (pc2 := 107) op184_104 (by decide) (by decide) rfl (fun b16 => ?_) (fun b16 => ?_)
    · have h := (if_pos b16).symm.trans h
      refine rx_p (L2 := [some (.ref 115), some (.int a1), some (.int a2), some (.int a3)]) (S2 := [.int a2]) (pc2 := 108) op184_107 rfl rfl ?_
      refine ry_if_eq (tgt := 161) (pc2 := 111) op184_108 (by decide) (by decide) rfl (fun b17 => ?_) (fun b17 => ?_)
      · have h := (if_pos b17).symm.trans h
        cases h
        exact hr _ _ rfl _ _
      · have h := (if_neg b17).symm.trans h
        refine rx_p (L2 := [some (.ref 115), some (.int a1), some (.int a2), some (.int a3)]) (S2 := [.ref 115]) (pc2 := 112) op184_111 rfl rfl ?_
        refine rx_p (L2 := [some (.ref 115), some (.int a1), some (.int a2), some (.int a3)]) (S2 := [.int a3, .ref 115]) (pc2 := 113) op184_112 rfl rfl ?_
        obtain ⟨⟨r19, m18⟩, f20, h⟩ := rq_bind h
        try dsimp only at h
        refine ry_iv (p := 115) (vs := [.int a3]) (T := []) (pc2 := 116) op184_113 ms_185 (by decide) rfl rfl (Nat.le_of_ble_eq_true rfl) (Nat.le_of_ble_eq_true rfl) sp_115 (mo_cardAt_ok xs (by omega)  f20) rfl ?_
        show rn_R _ _ _ _ _ [.int r19] _ _ _
        refine rx_p (L2 := [some (.ref 115), some (.int a1), some (.int a2), some (.int a3)]) (S2 := [.ref 115, .int r19]) (pc2 := 117) op184_116 rfl rfl ?_
        refine rx_gf (v := .ref 124) (pc2 := 120) op184_117 sp_115 rfl rfl rfl ?_
        refine rx_ic (v := 1) (pc2 := 121) op184_120 (by decide) rfl ?_
        refine rx_p (L2 := [some (.ref 115), some (.int a1), some (.int a2), some (.int a3)]) (S2 := [.int a3, .int 1, .ref 124, .int r19]) (pc2 := 122) op184_121 rfl rfl ?_
        refine rx_p (L2 := [some (.ref 115), some (.int a1), some (.int a2), some (.int a3)]) (S2 := [.int ((1 : Int32) + a3), .ref 124, .int r19]) (pc2 := 123) op184_122 rfl rfl ?_
        obtain ⟨k21, h⟩ := rq_chk h
        refine rx_ia (pc2 := 124) op184_123 (rn_shlt sp_124) sp_124 k21 rfl rfl ?_
        obtain ⟨x25, gc35, h⟩ := rq_bind h
        try dsimp only at h
        have c35 : ∀ (o23 o24 : Option Value), rn_R xs (d + 1) 184 132 [some (.ref 115), o23, o24, some (.int a3)] [.int x25] (rn_SH, m18) r τ := by
          intro o23 o24
          refine rx_s (L2 := [some (.ref 115), some (.int x25), o24, some (.int a3)]) (pc2 := 133) op184_132 rfl rfl rfl ?_
          refine rx_p (L2 := [some (.ref 115), some (.int x25), o24, some (.int a3)]) (S2 := [.ref 115]) (pc2 := 134) op184_133 rfl rfl ?_
          refine rx_p (L2 := [some (.ref 115), some (.int x25), o24, some (.int a3)]) (S2 := [.int a3, .ref 115]) (pc2 := 135) op184_134 rfl rfl ?_
          obtain ⟨⟨r27, m26⟩, f28, h⟩ := rq_bind h
          try dsimp only at h
          refine ry_iv (p := 115) (vs := [.int a3]) (T := []) (pc2 := 138) op184_135 ms_185 (by decide) rfl rfl (Nat.le_of_ble_eq_true rfl) (Nat.le_of_ble_eq_true rfl) sp_115 (mo_cardAt_ok xs (by omega)  f28) rfl ?_
          show rn_R _ _ _ _ _ [.int r27] _ _ _
          refine rx_p (L2 := [some (.ref 115), some (.int x25), o24, some (.int a3)]) (S2 := [.ref 115, .int r27]) (pc2 := 139) op184_138 rfl rfl ?_
          refine rx_gf (v := .ref 124) (pc2 := 142) op184_139 sp_115 rfl rfl rfl ?_
          refine rx_ic (v := 1) (pc2 := 143) op184_142 (by decide) rfl ?_
          refine rx_p (L2 := [some (.ref 115), some (.int x25), o24, some (.int a3)]) (S2 := [.int a3, .int 1, .ref 124, .int r27]) (pc2 := 144) op184_143 rfl rfl ?_
          refine rx_p (L2 := [some (.ref 115), some (.int x25), o24, some (.int a3)]) (S2 := [.int ((1 : Int32) + a3), .ref 124, .int r27]) (pc2 := 145) op184_144 rfl rfl ?_
          obtain ⟨k29, h⟩ := rq_chk h
          refine rx_ia (pc2 := 146) op184_145 (rn_shlt sp_124) sp_124 k29 rfl rfl ?_
          obtain ⟨x32, gc34, h⟩ := rq_bind h
          try dsimp only at h
          have c34 : ∀ (o31 : Option Value), rn_R xs (d + 1) 184 154 [some (.ref 115), some (.int x25), o31, some (.int a3)] [.int x32] (rn_SH, m26) r τ := by
            intro o31
            refine rx_s (L2 := [some (.ref 115), some (.int x25), some (.int x32), some (.int a3)]) (pc2 := 155) op184_154 rfl rfl rfl ?_
            obtain ⟨x33, ex33, h⟩ := rq_bv h
            refine rx_inc (w := 1) (v := x33) (L2 := [some (.ref 115), some (.int x25), some (.int x32), some (.int x33)]) (pc2 := 158) op184_155 rfl (by decide) ex33 rfl rfl ?_
            refine ry_go (tgt := 99) op184_158 (by decide) (by decide) ?_
            exact ih _ _ _ _ h
          refine ry_ic_ne (tgt := 153) (pc2 := 149) op184_146 (by decide) (by decide) rfl (fun b30 => ?_) (fun b30 => ?_)
          · have gc34 := (if_pos b30).symm.trans gc34
            refine rx_ic (v := 1) (pc2 := 150) op184_149 (by decide) rfl ?_
            refine ry_go (tgt := 154) op184_150 (by decide) (by decide) ?_
            cases gc34
            exact c34 _
          · have gc34 := (if_neg b30).symm.trans gc34
            refine rx_ic (v := 0) (pc2 := 154) op184_153 (by decide) rfl ?_
            cases gc34
            exact c34 _
        refine ry_ic_ge (tgt := 131) (pc2 := 127) op184_124 (by decide) (by decide) rfl (fun b22 => ?_) (fun b22 => ?_)
        · have gc35 := (if_pos b22).symm.trans gc35
          refine rx_ic (v := 1) (pc2 := 128) op184_127 (by decide) rfl ?_
          refine ry_go (tgt := 132) op184_128 (by decide) (by decide) ?_
          cases gc35
          exact c35 _ _
        · have gc35 := (if_neg b22).symm.trans gc35
          refine rx_ic (v := 0) (pc2 := 132) op184_131 (by decide) rfl ?_
          cases gc35
          exact c35 _ _
    · have h := (if_neg b16).symm.trans h
      cases h
      exact hr _ _ rfl _ _
set_option maxHeartbeats 4000000 in
set_option maxRecDepth 20000 in
theorem mo_keepPlay_l179_ok (xs : List Int32) {d : Nat} (hd : 2 ≤ d + 1) {r : Option Value} {τ : rn_H} {out : rn_Mem} (hr : ∀ (mO : rn_Mem), out = mO → ∀ (o1 o2 o3 : Option Value), rn_R xs (d + 1) 184 206 [some (.ref 115), o1, o2, o3] [] (rn_SH, mO) r τ) : ∀ (n : Nat) (a3 : Int32) (o1 o2 : Option Value) (m : rn_Mem), mo_keepPlay_l179 n a3 m = some out → rn_R xs (d + 1) 184 179 [some (.ref 115), o1, o2, some (.int a3)] [] (rn_SH, m) r τ := by
  intro n
  induction n with
  | zero =>
    intro _ _ _ _ h
    cases h
  | succ n ih =>
    intro a3 o1 o2 m h
    unfold mo_keepPlay_l179 at h
    try dsimp only at h
    refine rx_p (L2 := [some (.ref 115), o1, o2, some (.int a3)]) (S2 := [.int a3]) (pc2 := 180) op184_179 rfl rfl ?_
    refine rx_p (L2 := [some (.ref 115), o1, o2, some (.int a3)]) (S2 := [.ref 115, .int a3]) (pc2 := 181) op184_180 rfl rfl ?_
    obtain ⟨⟨r44, m43⟩, f45, h⟩ := rq_bind h
    try dsimp only at h
    refine ry_iv (p := 115) (vs := []) (T := [.int a3]) (pc2 := 184) op184_181 ms_155 (by decide) rfl rfl (Nat.le_of_ble_eq_true rfl) (Nat.le_of_ble_eq_true rfl) sp_115 (mo_size_ok xs (by omega)  f45) rfl ?_
    show rn_R _ _ _ _ _ [.int r44, .int a3] _ _ _
    refine ry_ic_ge (tgt := 206) (pc2 := 187) op184_184 (by decide) (by decide) rfl (fun b46 => ?_) (fun b46 => ?_)
    · have h := (if_pos b46).symm.trans h
      refine rx_p (L2 := [some (.ref 115), o1, o2, some (.int a3)]) (S2 := [.ref 115]) (pc2 := 188) op184_187 rfl rfl ?_
      refine rx_gf (v := .ref 124) (pc2 := 191) op184_188 sp_115 rfl rfl rfl ?_
      refine rx_ic (v := 1) (pc2 := 192) op184_191 (by decide) rfl ?_
      refine rx_p (L2 := [some (.ref 115), o1, o2, some (.int a3)]) (S2 := [.int a3, .int 1, .ref 124]) (pc2 := 193) op184_192 rfl rfl ?_
      refine rx_p (L2 := [some (.ref 115), o1, o2, some (.int a3)]) (S2 := [.int ((1 : Int32) + a3), .ref 124]) (pc2 := 194) op184_193 rfl rfl ?_
      refine rx_p (L2 := [some (.ref 115), o1, o2, some (.int a3)]) (S2 := [.ref 115, .int ((1 : Int32) + a3), .ref 124]) (pc2 := 195) op184_194 rfl rfl ?_
      refine rx_p (L2 := [some (.ref 115), o1, o2, some (.int a3)]) (S2 := [.int a3, .ref 115, .int ((1 : Int32) + a3), .ref 124]) (pc2 := 196) op184_195 rfl rfl ?_
      obtain ⟨⟨r48, m47⟩, f49, h⟩ := rq_bind h
      try dsimp only at h
      refine ry_iv (p := 115) (vs := [.int a3]) (T := [.int ((1 : Int32) + a3), .ref 124]) (pc2 := 199) op184_196 ms_185 (by decide) rfl rfl (Nat.le_of_ble_eq_true rfl) (Nat.le_of_ble_eq_true rfl) sp_115 (mo_cardAt_ok xs (by omega)  f49) rfl ?_
      show rn_R _ _ _ _ _ [.int r48, .int ((1 : Int32) + a3), .ref 124] _ _ _
      obtain ⟨k51, h⟩ := rq_chk h
      obtain ⟨m50, em50, h⟩ := rq_bv h
      refine rx_is (m2 := m50) (pc2 := 200) op184_199 sp_124 k51 rfl em50 rfl ?_
      obtain ⟨x52, ex52, h⟩ := rq_bv h
      refine rx_incd (w := 1) (v := x52) (j := 2) (pc2 := 203) op184_200 rfl (by decide) ex52 rfl (fun o53 => ?_)
      show rn_R _ _ _ _ [some (.ref 115), o1, o53, some (.int x52)] _ _ _ _
      refine ry_go (tgt := 179) op184_203 (by decide) (by decide) ?_
      exact ih _ _ _ _ h
    · have h := (if_neg b46).symm.trans h
      cases h
      exact hr _ rfl _ _ _
set_option maxHeartbeats 4000000 in
set_option maxRecDepth 20000 in
theorem mo_keepPlay_l218_ok (xs : List Int32) {d : Nat} (hd : 2 ≤ d + 1) {r : Option Value} {τ : rn_H} {out : rn_Mem} (hr : ∀ (mO : rn_Mem), out = mO → ∀ (o1 o2 o3 : Option Value), rn_R xs (d + 1) 184 259 [some (.ref 115), o1, o2, o3] [] (rn_SH, mO) r τ) : ∀ (n : Nat) (a3 : Int32) (o1 o2 : Option Value) (m : rn_Mem), mo_keepPlay_l218 n a3 m = some out → rn_R xs (d + 1) 184 218 [some (.ref 115), o1, o2, some (.int a3)] [] (rn_SH, m) r τ := by
  intro n
  induction n with
  | zero =>
    intro _ _ _ _ h
    cases h
  | succ n ih =>
    intro a3 o1 o2 m h
    unfold mo_keepPlay_l218 at h
    try dsimp only at h
    refine rx_p (L2 := [some (.ref 115), o1, o2, some (.int a3)]) (S2 := [.int a3]) (pc2 := 219) op184_218 rfl rfl ?_
    refine rx_bp (v := 16) (pc2 := 221) op184_219 (by decide) rfl ?_
    refine ry_ic_ge (tgt := 259) (pc2 := 224) op184_221 (by decide) (by decide) rfl (fun b65 => ?_) (fun b65 => ?_)
    · have h := (if_pos b65).symm.trans h
      refine rx_p (L2 := [some (.ref 115), o1, o2, some (.int a3)]) (S2 := [.ref 115]) (pc2 := 225) op184_224 rfl rfl ?_
      refine rx_gf (v := .ref 120) (pc2 := 228) op184_225 sp_115 rfl rfl rfl ?_
      refine rx_p (L2 := [some (.ref 115), o1, o2, some (.int a3)]) (S2 := [.int a3, .ref 120]) (pc2 := 229) op184_228 rfl rfl ?_
      refine rx_p (L2 := [some (.ref 115), o1, o2, some (.int a3)]) (S2 := [.int a3, .ref 120, .int a3, .ref 120]) (pc2 := 230) op184_229 rfl rfl ?_
      obtain ⟨k66, h⟩ := rq_chk h
      refine rx_ia (pc2 := 231) op184_230 (rn_shlt sp_120) sp_120 k66 rfl rfl ?_
      refine rx_p (L2 := [some (.ref 115), o1, o2, some (.int a3)]) (S2 := [.ref 115, .int (m.1 120 a3.toNatClampNeg), .int a3, .ref 120]) (pc2 := 232) op184_231 rfl rfl ?_
      refine rx_p (L2 := [some (.ref 115), o1, o2, some (.int a3)]) (S2 := [.int a3, .ref 115, .int (m.1 120 a3.toNatClampNeg), .int a3, .ref 120]) (pc2 := 233) op184_232 rfl rfl ?_
      obtain ⟨⟨r68, m67⟩, f69, h⟩ := rq_bind h
      try dsimp only at h
      refine ry_iv (p := 115) (vs := [.int a3]) (T := [.int (m.1 120 a3.toNatClampNeg), .int a3, .ref 120]) (pc2 := 236) op184_233 ms_169 (by decide) rfl rfl (Nat.le_of_ble_eq_true rfl) (Nat.le_of_ble_eq_true rfl) sp_115 (mo_isInPack_ok xs (by omega)  f69) rfl ?_
      show rn_R _ _ _ _ _ [.int r68, .int (m.1 120 a3.toNatClampNeg), .int a3, .ref 120] _ _ _
      obtain ⟨x74, gc79, h⟩ := rq_bind h
      try dsimp only at h
      have c79 : ∀ (o72 o73 : Option Value), rn_R xs (d + 1) 184 251 [some (.ref 115), o72, o73, some (.int a3)] [.int x74, .int (m.1 120 a3.toNatClampNeg), .int a3, .ref 120] (rn_SH, m67) r τ := by
        intro o72 o73
        refine rx_p (L2 := [some (.ref 115), o72, o73, some (.int a3)]) (S2 := [.int ((m.1 120 a3.toNatClampNeg) ||| x74), .int a3, .ref 120]) (pc2 := 252) op184_251 rfl rfl ?_
        obtain ⟨k76, h⟩ := rq_chk h
        obtain ⟨m75, em75, h⟩ := rq_bv h
        refine rx_is (m2 := m75) (pc2 := 253) op184_252 sp_120 k76 rfl em75 rfl ?_
        obtain ⟨x77, ex77, h⟩ := rq_bv h
        refine rx_incd (w := 1) (v := x77) (j := 2) (pc2 := 256) op184_253 rfl (by decide) ex77 rfl (fun o78 => ?_)
        show rn_R _ _ _ _ [some (.ref 115), o72, o78, some (.int x77)] _ _ _ _
        refine ry_go (tgt := 218) op184_256 (by decide) (by decide) ?_
        exact ih _ _ _ _ h
      refine ry_if_eq (tgt := 250) (pc2 := 239) op184_236 (by decide) (by decide) rfl (fun b70 => ?_) (fun b70 => ?_)
      · have gc79 := (if_pos b70).symm.trans gc79
        refine rx_ic (v := 0) (pc2 := 251) op184_250 (by decide) rfl ?_
        cases gc79
        exact c79 _ _
      · have gc79 := (if_neg b70).symm.trans gc79
        refine rx_ic (v := 1) (pc2 := 240) op184_239 (by decide) rfl ?_
        refine rx_p (L2 := [some (.ref 115), o1, o2, some (.int a3)]) (S2 := [.ref 115, .int 1, .int (m.1 120 a3.toNatClampNeg), .int a3, .ref 120]) (pc2 := 241) op184_240 rfl rfl ?_
        refine rx_gf (v := .ref 136) (pc2 := 244) op184_241 sp_115 rfl rfl rfl ?_
        refine rx_p (L2 := [some (.ref 115), o1, o2, some (.int a3)]) (S2 := [.int a3, .ref 136, .int 1, .int (m.1 120 a3.toNatClampNeg), .int a3, .ref 120]) (pc2 := 245) op184_244 rfl rfl ?_
        obtain ⟨k71, gc79⟩ := rq_chk gc79
        refine rx_ia (pc2 := 246) op184_245 (rn_shlt sp_136) sp_136 k71 rfl rfl ?_
        refine rx_p (L2 := [some (.ref 115), o1, o2, some (.int a3)]) (S2 := [.int ((1 : Int32) <<< ((m67.1 136 a3.toNatClampNeg) &&& 31)), .int (m.1 120 a3.toNatClampNeg), .int a3, .ref 120]) (pc2 := 247) op184_246 rfl rfl ?_
        refine ry_go (tgt := 251) op184_247 (by decide) (by decide) ?_
        cases gc79
        exact c79 _ _
    · have h := (if_neg b65).symm.trans h
      cases h
      exact hr _ rfl _ _ _
set_option maxHeartbeats 4000000 in
set_option maxRecDepth 20000 in
theorem mo_keepPlay_l261_ok (xs : List Int32) {d : Nat} (hd : 2 ≤ d + 1) {r : Option Value} {τ : rn_H} {out : rn_Mem} (hr : ∀ (mO : rn_Mem), out = mO → ∀ (o1 o2 o3 : Option Value), rn_R xs (d + 1) 184 297 [some (.ref 115), o1, o2, o3] [] (rn_SH, mO) r τ) : ∀ (n : Nat) (a3 : Int32) (o1 o2 : Option Value) (m : rn_Mem), mo_keepPlay_l261 n a3 m = some out → rn_R xs (d + 1) 184 261 [some (.ref 115), o1, o2, some (.int a3)] [] (rn_SH, m) r τ := by
  intro n
  induction n with
  | zero =>
    intro _ _ _ _ h
    cases h
  | succ n ih =>
    intro a3 o1 o2 m h
    unfold mo_keepPlay_l261 at h
    try dsimp only at h
    refine rx_p (L2 := [some (.ref 115), o1, o2, some (.int a3)]) (S2 := [.int a3]) (pc2 := 262) op184_261 rfl rfl ?_
    refine rx_p (L2 := [some (.ref 115), o1, o2, some (.int a3)]) (S2 := [.ref 115, .int a3]) (pc2 := 263) op184_262 rfl rfl ?_
    refine rx_gf (v := .int (m.1 115 21)) (pc2 := 266) op184_263 sp_115 rfl rfl rfl ?_
    refine ry_ic_ge (tgt := 297) (pc2 := 269) op184_266 (by decide) (by decide) rfl (fun b85 => ?_) (fun b85 => ?_)
    · have h := (if_pos b85).symm.trans h
      refine rx_p (L2 := [some (.ref 115), o1, o2, some (.int a3)]) (S2 := [.ref 115]) (pc2 := 270) op184_269 rfl rfl ?_
      refine rx_gf (v := .ref 121) (pc2 := 273) op184_270 sp_115 rfl rfl rfl ?_
      refine rx_p (L2 := [some (.ref 115), o1, o2, some (.int a3)]) (S2 := [.int a3, .ref 121]) (pc2 := 274) op184_273 rfl rfl ?_
      refine rx_p (L2 := [some (.ref 115), o1, o2, some (.int a3)]) (S2 := [.int a3, .ref 121, .int a3, .ref 121]) (pc2 := 275) op184_274 rfl rfl ?_
      obtain ⟨k86, h⟩ := rq_chk h
      refine rx_ia (pc2 := 276) op184_275 (rn_shlt sp_121) sp_121 k86 rfl rfl ?_
      refine rx_ic (v := 1) (pc2 := 277) op184_276 (by decide) rfl ?_
      refine rx_p (L2 := [some (.ref 115), o1, o2, some (.int a3)]) (S2 := [.ref 115, .int 1, .int (m.1 121 a3.toNatClampNeg), .int a3, .ref 121]) (pc2 := 278) op184_277 rfl rfl ?_
      refine rx_gf (v := .ref 127) (pc2 := 281) op184_278 sp_115 rfl rfl rfl ?_
      refine rx_p (L2 := [some (.ref 115), o1, o2, some (.int a3)]) (S2 := [.ref 115, .ref 127, .int 1, .int (m.1 121 a3.toNatClampNeg), .int a3, .ref 121]) (pc2 := 282) op184_281 rfl rfl ?_
      refine rx_gf (v := .ref 125) (pc2 := 285) op184_282 sp_115 rfl rfl rfl ?_
      refine rx_p (L2 := [some (.ref 115), o1, o2, some (.int a3)]) (S2 := [.int a3, .ref 125, .ref 127, .int 1, .int (m.1 121 a3.toNatClampNeg), .int a3, .ref 121]) (pc2 := 286) op184_285 rfl rfl ?_
      obtain ⟨k87, h⟩ := rq_chk h
      refine rx_ia (pc2 := 287) op184_286 (rn_shlt sp_125) sp_125 k87 rfl rfl ?_
      obtain ⟨k88, h⟩ := rq_chk h
      refine rx_ia (pc2 := 288) op184_287 (rn_shlt sp_127) sp_127 k88 rfl rfl ?_
      refine rx_p (L2 := [some (.ref 115), o1, o2, some (.int a3)]) (S2 := [.int ((1 : Int32) <<< ((m.1 127 (m.1 125 a3.toNatClampNeg).toNatClampNeg) &&& 31)), .int (m.1 121 a3.toNatClampNeg), .int a3, .ref 121]) (pc2 := 289) op184_288 rfl rfl ?_
      refine rx_p (L2 := [some (.ref 115), o1, o2, some (.int a3)]) (S2 := [.int ((m.1 121 a3.toNatClampNeg) ||| ((1 : Int32) <<< ((m.1 127 (m.1 125 a3.toNatClampNeg).toNatClampNeg) &&& 31))), .int a3, .ref 121]) (pc2 := 290) op184_289 rfl rfl ?_
      obtain ⟨k90, h⟩ := rq_chk h
      obtain ⟨m89, em89, h⟩ := rq_bv h
      refine rx_is (m2 := m89) (pc2 := 291) op184_290 sp_121 k90 rfl em89 rfl ?_
      obtain ⟨x91, ex91, h⟩ := rq_bv h
      refine rx_incd (w := 1) (v := x91) (j := 2) (pc2 := 294) op184_291 rfl (by decide) ex91 rfl (fun o92 => ?_)
      show rn_R _ _ _ _ [some (.ref 115), o1, o92, some (.int x91)] _ _ _ _
      refine ry_go (tgt := 261) op184_294 (by decide) (by decide) ?_
      exact ih _ _ _ _ h
    · have h := (if_neg b85).symm.trans h
      cases h
      exact hr _ rfl _ _ _
set_option maxHeartbeats 4000000 in
set_option maxRecDepth 20000 in
theorem mo_keepPlay_l299_ok (xs : List Int32) {d : Nat} (hd : 2 ≤ d + 1) {r : Option Value} {τ : rn_H} {out : rn_Mem} (hr : ∀ (mO : rn_Mem), out = mO → ∀ (o0 o1 o2 o3 : Option Value), rn_R xs (d + 1) 184 349 [o0, o1, o2, o3] [] (rn_SH, mO) r τ) : ∀ (n : Nat) (a3 : Int32) (o1 o2 : Option Value) (m : rn_Mem), mo_keepPlay_l299 n a3 m = some out → rn_R xs (d + 1) 184 299 [some (.ref 115), o1, o2, some (.int a3)] [] (rn_SH, m) r τ := by
  intro n
  induction n with
  | zero =>
    intro _ _ _ _ h
    cases h
  | succ n ih =>
    intro a3 o1 o2 m h
    unfold mo_keepPlay_l299 at h
    try dsimp only at h
    refine rx_p (L2 := [some (.ref 115), o1, o2, some (.int a3)]) (S2 := [.int a3]) (pc2 := 300) op184_299 rfl rfl ?_
    refine rx_p (L2 := [some (.ref 115), o1, o2, some (.int a3)]) (S2 := [.ref 115, .int a3]) (pc2 := 301) op184_300 rfl rfl ?_
    refine rx_gf (v := .ref 116) (pc2 := 304) op184_301 sp_115 rfl rfl rfl ?_
    refine rx_ic (v := 2) (pc2 := 305) op184_304 (by decide) rfl ?_
    refine rx_ia (j := 2) (pc2 := 306) op184_305 (rn_shlt sp_116) sp_116 (by decide) (by decide) rfl ?_
    refine ry_ic_ge (tgt := 349) (pc2 := 309) op184_306 (by decide) (by decide) rfl (fun b98 => ?_) (fun b98 => ?_)
    · have h := (if_pos b98).symm.trans h
      refine rx_p (L2 := [some (.ref 115), o1, o2, some (.int a3)]) (S2 := [.ref 115]) (pc2 := 310) op184_309 rfl rfl ?_
      refine rx_gf (v := .ref 122) (pc2 := 313) op184_310 sp_115 rfl rfl rfl ?_
      refine rx_p (L2 := [some (.ref 115), o1, o2, some (.int a3)]) (S2 := [.int a3, .ref 122]) (pc2 := 314) op184_313 rfl rfl ?_
      refine rx_p (L2 := [some (.ref 115), o1, o2, some (.int a3)]) (S2 := [.int a3, .ref 122, .int a3, .ref 122]) (pc2 := 315) op184_314 rfl rfl ?_
      obtain ⟨k99, h⟩ := rq_chk h
      refine rx_ia (pc2 := 316) op184_315 (rn_shlt sp_122) sp_122 k99 rfl rfl ?_
      refine rx_ic (v := 1) (pc2 := 317) op184_316 (by decide) rfl ?_
      refine rx_p (L2 := [some (.ref 115), o1, o2, some (.int a3)]) (S2 := [.ref 115, .int 1, .int (m.1 122 a3.toNatClampNeg), .int a3, .ref 122]) (pc2 := 318) op184_317 rfl rfl ?_
      refine rx_gf (v := .ref 129) (pc2 := 321) op184_318 sp_115 rfl rfl rfl ?_
      refine rx_p (L2 := [some (.ref 115), o1, o2, some (.int a3)]) (S2 := [.int a3, .ref 129, .int 1, .int (m.1 122 a3.toNatClampNeg), .int a3, .ref 122]) (pc2 := 322) op184_321 rfl rfl ?_
      obtain ⟨k100, h⟩ := rq_chk h
      refine rx_ia (pc2 := 323) op184_322 (rn_shlt sp_129) sp_129 k100 rfl rfl ?_
      refine rx_p (L2 := [some (.ref 115), o1, o2, some (.int a3)]) (S2 := [.int ((1 : Int32) <<< ((m.1 129 a3.toNatClampNeg) &&& 31)), .int (m.1 122 a3.toNatClampNeg), .int a3, .ref 122]) (pc2 := 324) op184_323 rfl rfl ?_
      refine rx_p (L2 := [some (.ref 115), o1, o2, some (.int a3)]) (S2 := [.int ((m.1 122 a3.toNatClampNeg) ||| ((1 : Int32) <<< ((m.1 129 a3.toNatClampNeg) &&& 31))), .int a3, .ref 122]) (pc2 := 325) op184_324 rfl rfl ?_
      obtain ⟨k102, h⟩ := rq_chk h
      obtain ⟨m101, em101, h⟩ := rq_bv h
      refine rx_is (m2 := m101) (pc2 := 326) op184_325 sp_122 k102 rfl em101 rfl ?_
      refine rx_p (L2 := [some (.ref 115), o1, o2, some (.int a3)]) (S2 := [.ref 115]) (pc2 := 327) op184_326 rfl rfl ?_
      refine rx_gf (v := .ref 123) (pc2 := 330) op184_327 sp_115 rfl rfl rfl ?_
      refine rx_p (L2 := [some (.ref 115), o1, o2, some (.int a3)]) (S2 := [.int a3, .ref 123]) (pc2 := 331) op184_330 rfl rfl ?_
      refine rx_p (L2 := [some (.ref 115), o1, o2, some (.int a3)]) (S2 := [.int a3, .ref 123, .int a3, .ref 123]) (pc2 := 332) op184_331 rfl rfl ?_
      obtain ⟨k103, h⟩ := rq_chk h
      refine rx_ia (pc2 := 333) op184_332 (rn_shlt sp_123) sp_123 k103 rfl rfl ?_
      refine rx_ic (v := 1) (pc2 := 334) op184_333 (by decide) rfl ?_
      refine rx_p (L2 := [some (.ref 115), o1, o2, some (.int a3)]) (S2 := [.ref 115, .int 1, .int (m101.1 123 a3.toNatClampNeg), .int a3, .ref 123]) (pc2 := 335) op184_334 rfl rfl ?_
      refine rx_gf (v := .ref 128) (pc2 := 338) op184_335 sp_115 rfl rfl rfl ?_
      refine rx_p (L2 := [some (.ref 115), o1, o2, some (.int a3)]) (S2 := [.int a3, .ref 128, .int 1, .int (m101.1 123 a3.toNatClampNeg), .int a3, .ref 123]) (pc2 := 339) op184_338 rfl rfl ?_
      obtain ⟨k104, h⟩ := rq_chk h
      refine rx_ia (pc2 := 340) op184_339 (rn_shlt sp_128) sp_128 k104 rfl rfl ?_
      refine rx_p (L2 := [some (.ref 115), o1, o2, some (.int a3)]) (S2 := [.int ((1 : Int32) <<< ((m101.1 128 a3.toNatClampNeg) &&& 31)), .int (m101.1 123 a3.toNatClampNeg), .int a3, .ref 123]) (pc2 := 341) op184_340 rfl rfl ?_
      refine rx_p (L2 := [some (.ref 115), o1, o2, some (.int a3)]) (S2 := [.int ((m101.1 123 a3.toNatClampNeg) ||| ((1 : Int32) <<< ((m101.1 128 a3.toNatClampNeg) &&& 31))), .int a3, .ref 123]) (pc2 := 342) op184_341 rfl rfl ?_
      obtain ⟨k106, h⟩ := rq_chk h
      obtain ⟨m105, em105, h⟩ := rq_bv h
      refine rx_is (m2 := m105) (pc2 := 343) op184_342 sp_123 k106 rfl em105 rfl ?_
      obtain ⟨x107, ex107, h⟩ := rq_bv h
      refine rx_incd (w := 1) (v := x107) (j := 2) (pc2 := 346) op184_343 rfl (by decide) ex107 rfl (fun o108 => ?_)
      show rn_R _ _ _ _ [some (.ref 115), o1, o108, some (.int x107)] _ _ _ _
      refine ry_go (tgt := 299) op184_346 (by decide) (by decide) ?_
      exact ih _ _ _ _ h
    · have h := (if_neg b98).symm.trans h
      cases h
      exact hr _ rfl _ _ _ _
set_option maxHeartbeats 4000000 in
set_option maxRecDepth 20000 in
theorem mo_keepPlay_ok (xs : List Int32) {d : Nat} (hd : 2 ≤ d) {n : Nat} {m mO : rn_Mem} (h : mo_keepPlay n  m = some mO) : rn_R xs d 184 0 (rn_ent 4 [.ref 115]) [] (rn_SH, m) none (rn_SH, mO) := by
  obtain ⟨d, rfl⟩ : ∃ e, d = e + 1 := ⟨d - 1, by omega⟩
  unfold mo_keepPlay at h
  show rn_R xs (d + 1) 184 0 [some (.ref 115), none, none, none] [] (rn_SH, m) none (rn_SH, mO)
  refine rx_p (L2 := [some (.ref 115), none, none, none]) (S2 := [.ref 115]) (pc2 := 1) op184_0 rfl rfl ?_
  refine rx_gf (v := .int (m.1 115 11)) (pc2 := 4) op184_1 sp_115 rfl rfl rfl ?_
  refine ry_if_eq (tgt := 37) (pc2 := 7) op184_4 (by decide) (by decide) rfl (fun b1 => ?_) (fun b1 => ?_)
  · have h := (if_pos b1).symm.trans h
    refine rx_p (L2 := [some (.ref 115), none, none, none]) (S2 := [.ref 115]) (pc2 := 38) op184_37 rfl rfl ?_
    refine rx_gf (v := .long (m.2 115 14)) (pc2 := 41) op184_38 sp_115 rfl rfl rfl ?_
    refine rx_lc (v := 0) (pc2 := 42) op184_41 (by decide) rfl ?_
    refine rx_p (L2 := [some (.ref 115), none, none, none]) (S2 := [.int (lg_cmp (m.2 115 14) 0)]) (pc2 := 43) op184_42 rfl rfl ?_
    obtain ⟨x7, gc120, h⟩ := rq_bind h
    try dsimp only at h
    have c120 : ∀ (o4 o5 o6 : Option Value), rn_R xs (d + 1) 184 66 [some (.ref 115), o4, o5, o6] [.int x7] (rn_SH, m) none (rn_SH, mO) := by
      intro o4 o5 o6
      refine rx_s (L2 := [some (.ref 115), some (.int x7), o5, o6]) (pc2 := 67) op184_66 rfl rfl rfl ?_
      refine rx_p (L2 := [some (.ref 115), some (.int x7), o5, o6]) (S2 := [.ref 115]) (pc2 := 68) op184_67 rfl rfl ?_
      refine rx_gf (v := .long (m.2 115 14)) (pc2 := 71) op184_68 sp_115 rfl rfl rfl ?_
      refine rx_lc (v := 0) (pc2 := 72) op184_71 (by decide) rfl ?_
      refine rx_p (L2 := [some (.ref 115), some (.int x7), o5, o6]) (S2 := [.int (lg_cmp (m.2 115 14) 0)]) (pc2 := 73) op184_72 rfl rfl ?_
      obtain ⟨x12, gc119, h⟩ := rq_bind h
      try dsimp only at h
      have c119 : ∀ (o10 o11 : Option Value), rn_R xs (d + 1) 184 96 [some (.ref 115), some (.int x7), o10, o11] [.int x12] (rn_SH, m) none (rn_SH, mO) := by
        intro o10 o11
        refine rx_s (L2 := [some (.ref 115), some (.int x7), some (.int x12), o11]) (pc2 := 97) op184_96 rfl rfl rfl ?_
        refine rx_ic (v := 0) (pc2 := 98) op184_97 (by decide) rfl ?_
        refine rx_s (L2 := [some (.ref 115), some (.int x7), some (.int x12), some (.int 0)]) (pc2 := 99) op184_98 rfl rfl rfl ?_
        obtain ⟨wf118, f118, h⟩ := rq_bind h
        refine mo_keepPlay_l99_ok xs hd (fun x37 m36 eq => ?_) _ _ _ _ _  f118
        subst eq
        try dsimp only at h
        intro o38 o39
        refine rx_p (L2 := [some (.ref 115), some (.int x37), o38, o39]) (S2 := [.int x37]) (pc2 := 162) op184_161 rfl rfl ?_
        obtain ⟨m62, gc117, h⟩ := rq_bind h
        try dsimp only at h
        have c117 : ∀ (o59 o60 o61 : Option Value), rn_R xs (d + 1) 184 206 [some (.ref 115), o59, o60, o61] [] (rn_SH, m62) none (rn_SH, mO) := by
          intro o59 o60 o61
          refine rx_p (L2 := [some (.ref 115), o59, o60, o61]) (S2 := [.ref 115]) (pc2 := 207) op184_206 rfl rfl ?_
          refine rx_p (L2 := [some (.ref 115), o59, o60, o61]) (S2 := [.ref 115, .ref 115]) (pc2 := 208) op184_207 rfl rfl ?_
          refine rx_gf (v := .long (m62.2 115 14)) (pc2 := 211) op184_208 sp_115 rfl rfl rfl ?_
          refine rx_lc (v := 1) (pc2 := 212) op184_211 (by decide) rfl ?_
          refine rx_p (L2 := [some (.ref 115), o59, o60, o61]) (S2 := [.long ((m62.2 115 14) + 1), .ref 115]) (pc2 := 213) op184_212 rfl rfl ?_
          obtain ⟨m63, em63, h⟩ := rq_bv h
          refine rx_pj (m2 := m63) (pc2 := 216) op184_213 sp_115 rfl em63 rfl ?_
          refine rx_ic (v := 0) (pc2 := 217) op184_216 (by decide) rfl ?_
          refine rx_sd (v := 0) (j := 2) (pc2 := 218) op184_217 rfl rfl (Nat.le_of_ble_eq_true rfl) rfl (fun o64 => ?_)
          show rn_R _ _ _ _ [some (.ref 115), o59, o64, some (.int 0)] _ _ _ _
          obtain ⟨m80, f116, h⟩ := rq_bind h
          refine mo_keepPlay_l218_ok xs hd (fun m0 eq => ?_) _ _ _ _ _  f116
          subst eq
          try dsimp only at h
          intro o81 o82 o83
          refine rx_ic (v := 0) (pc2 := 260) op184_259 (by decide) rfl ?_
          refine rx_sd (v := 0) (j := 2) (pc2 := 261) op184_260 rfl rfl (Nat.le_of_ble_eq_true rfl) rfl (fun o84 => ?_)
          show rn_R _ _ _ _ [some (.ref 115), o81, o84, some (.int 0)] _ _ _ _
          obtain ⟨m93, f115, h⟩ := rq_bind h
          refine mo_keepPlay_l261_ok xs hd (fun m0 eq => ?_) _ _ _ _ _  f115
          subst eq
          try dsimp only at h
          intro o94 o95 o96
          refine rx_ic (v := 0) (pc2 := 298) op184_297 (by decide) rfl ?_
          refine rx_sd (v := 0) (j := 2) (pc2 := 299) op184_298 rfl rfl (Nat.le_of_ble_eq_true rfl) rfl (fun o97 => ?_)
          show rn_R _ _ _ _ [some (.ref 115), o94, o97, some (.int 0)] _ _ _ _
          obtain ⟨m109, f114, h⟩ := rq_bind h
          refine mo_keepPlay_l299_ok xs hd (fun m0 eq => ?_) _ _ _ _ _  f114
          subst eq
          try dsimp only at h
          intro o110 o111 o112 o113
          obtain rfl := Option.some.inj h
          exact ry_rv op184_349 ms_184 rfl
        refine ry_if_eq (tgt := 206) (pc2 := 165) op184_162 (by decide) (by decide) rfl (fun b40 => ?_) (fun b40 => ?_)
        · have gc117 := (if_pos b40).symm.trans gc117
          cases gc117
          exact c117 _ _ _
        · have gc117 := (if_neg b40).symm.trans gc117
          refine rx_p (L2 := [some (.ref 115), some (.int x37), o38, o39]) (S2 := [.ref 115]) (pc2 := 166) op184_165 rfl rfl ?_
          refine rx_gf (v := .ref 124) (pc2 := 169) op184_166 sp_115 rfl rfl rfl ?_
          refine rx_ic (v := 0) (pc2 := 170) op184_169 (by decide) rfl ?_
          refine rx_p (L2 := [some (.ref 115), some (.int x37), o38, o39]) (S2 := [.ref 115, .int 0, .ref 124]) (pc2 := 171) op184_170 rfl rfl ?_
          refine rx_gf (v := .ref 129) (pc2 := 174) op184_171 sp_115 rfl rfl rfl ?_
          refine rx_ic (v := 0) (pc2 := 175) op184_174 (by decide) rfl ?_
          refine rx_ia (j := 0) (pc2 := 176) op184_175 (rn_shlt sp_129) sp_129 (by decide) (by decide) rfl ?_
          obtain ⟨m41, em41, gc117⟩ := rq_bv gc117
          refine rx_is (j := 0) (m2 := m41) (pc2 := 177) op184_176 sp_124 (by decide) (by decide) em41 rfl ?_
          refine rx_ic (v := 0) (pc2 := 178) op184_177 (by decide) rfl ?_
          refine rx_sd (v := 0) (j := 2) (pc2 := 179) op184_178 rfl rfl (Nat.le_of_ble_eq_true rfl) rfl (fun o42 => ?_)
          show rn_R _ _ _ _ [some (.ref 115), some (.int x37), o42, some (.int 0)] _ _ _ _
          obtain ⟨m54, f58, gc117⟩ := rq_bind gc117
          refine mo_keepPlay_l179_ok xs hd (fun m0 eq => ?_) _ _ _ _ _  f58
          subst eq
          try dsimp only at gc117
          intro o55 o56 o57
          cases gc117
          exact c117 _ _ _
      refine ry_if_le (tgt := 95) (pc2 := 76) op184_73 (by decide) (by decide) rfl (fun b8 => ?_) (fun b8 => ?_)
      · have gc119 := (if_pos b8).symm.trans gc119
        refine rx_p (L2 := [some (.ref 115), some (.int x7), o5, o6]) (S2 := [.ref 115]) (pc2 := 77) op184_76 rfl rfl ?_
        refine rx_gf (v := .ref 129) (pc2 := 80) op184_77 sp_115 rfl rfl rfl ?_
        refine rx_ic (v := 0) (pc2 := 81) op184_80 (by decide) rfl ?_
        refine rx_ia (j := 0) (pc2 := 82) op184_81 (rn_shlt sp_129) sp_129 (by decide) (by decide) rfl ?_
        refine rx_p (L2 := [some (.ref 115), some (.int x7), o5, o6]) (S2 := [.ref 115, .int (m.1 129 0)]) (pc2 := 83) op184_82 rfl rfl ?_
        refine rx_gf (v := .ref 124) (pc2 := 86) op184_83 sp_115 rfl rfl rfl ?_
        refine rx_ic (v := 0) (pc2 := 87) op184_86 (by decide) rfl ?_
        refine rx_ia (j := 0) (pc2 := 88) op184_87 (rn_shlt sp_124) sp_124 (by decide) (by decide) rfl ?_
        refine ry_ic_ne (tgt := 95) (pc2 := 91) op184_88 (by decide) (by decide) rfl (fun b9 => ?_) (fun b9 => ?_)
        · have gc119 := (if_pos b9).symm.trans gc119
          refine rx_ic (v := 1) (pc2 := 92) op184_91 (by decide) rfl ?_
          refine ry_go (tgt := 96) op184_92 (by decide) (by decide) ?_
          cases gc119
          exact c119 _ _
        · have gc119 := (if_neg b9).symm.trans gc119
          refine rx_ic (v := 0) (pc2 := 96) op184_95 (by decide) rfl ?_
          cases gc119
          exact c119 _ _
      · have gc119 := (if_neg b8).symm.trans gc119
        refine rx_ic (v := 0) (pc2 := 96) op184_95 (by decide) rfl ?_
        cases gc119
        exact c119 _ _
    refine ry_if_eq (tgt := 61) (pc2 := 46) op184_43 (by decide) (by decide) rfl (fun b2 => ?_) (fun b2 => ?_)
    · have gc120 := (if_pos b2).symm.trans gc120
      refine rx_ic (v := 1) (pc2 := 62) op184_61 (by decide) rfl ?_
      refine ry_go (tgt := 66) op184_62 (by decide) (by decide) ?_
      cases gc120
      exact c120 _ _ _
    · have gc120 := (if_neg b2).symm.trans gc120
      refine rx_p (L2 := [some (.ref 115), none, none, none]) (S2 := [.ref 115]) (pc2 := 47) op184_46 rfl rfl ?_
      refine rx_gf (v := .ref 129) (pc2 := 50) op184_47 sp_115 rfl rfl rfl ?_
      refine rx_ic (v := 0) (pc2 := 51) op184_50 (by decide) rfl ?_
      refine rx_ia (j := 0) (pc2 := 52) op184_51 (rn_shlt sp_129) sp_129 (by decide) (by decide) rfl ?_
      refine rx_p (L2 := [some (.ref 115), none, none, none]) (S2 := [.ref 115, .int (m.1 129 0)]) (pc2 := 53) op184_52 rfl rfl ?_
      refine rx_gf (v := .ref 124) (pc2 := 56) op184_53 sp_115 rfl rfl rfl ?_
      refine rx_ic (v := 0) (pc2 := 57) op184_56 (by decide) rfl ?_
      refine rx_ia (j := 0) (pc2 := 58) op184_57 (rn_shlt sp_124) sp_124 (by decide) (by decide) rfl ?_
      refine ry_ic_ge (tgt := 65) (pc2 := 61) op184_58 (by decide) (by decide) rfl (fun b3 => ?_) (fun b3 => ?_)
      · have gc120 := (if_pos b3).symm.trans gc120
        refine rx_ic (v := 1) (pc2 := 62) op184_61 (by decide) rfl ?_
        refine ry_go (tgt := 66) op184_62 (by decide) (by decide) ?_
        cases gc120
        exact c120 _ _ _
      · have gc120 := (if_neg b3).symm.trans gc120
        refine rx_ic (v := 0) (pc2 := 66) op184_65 (by decide) rfl ?_
        cases gc120
        exact c120 _ _ _
  · have h := (if_neg b1).symm.trans h
    refine rx_p (L2 := [some (.ref 115), none, none, none]) (S2 := [.ref 115]) (pc2 := 8) op184_7 rfl rfl ?_
    refine rx_p (L2 := [some (.ref 115), none, none, none]) (S2 := [.ref 115, .ref 115]) (pc2 := 9) op184_8 rfl rfl ?_
    refine rx_gf (v := .ref 135) (pc2 := 12) op184_9 sp_115 rfl rfl rfl ?_
    refine rx_ic (v := 0) (pc2 := 13) op184_12 (by decide) rfl ?_
    refine rx_ia (j := 0) (pc2 := 14) op184_13 (rn_shlt sp_135) sp_135 (by decide) (by decide) rfl ?_
    obtain ⟨m121, em121, h⟩ := rq_bv h
    refine rx_pf (m2 := m121) (pc2 := 17) op184_14 sp_115 rfl em121 rfl ?_
    refine rx_p (L2 := [some (.ref 115), none, none, none]) (S2 := [.ref 115]) (pc2 := 18) op184_17 rfl rfl ?_
    refine rx_p (L2 := [some (.ref 115), none, none, none]) (S2 := [.ref 115, .ref 115]) (pc2 := 19) op184_18 rfl rfl ?_
    refine rx_gf (v := .int (m121.1 115 15)) (pc2 := 22) op184_19 sp_115 rfl rfl rfl ?_
    obtain ⟨x127, gc129, h⟩ := rq_bind h
    try dsimp only at h
    have c129 : ∀ (o123 o124 o125 o126 : Option Value), rn_R xs (d + 1) 184 33 [o123, o124, o125, o126] [.long x127, .ref 115] (rn_SH, m121) none (rn_SH, mO) := by
      intro o123 o124 o125 o126
      obtain ⟨m128, em128, h⟩ := rq_bv h
      refine rx_pj (m2 := m128) (pc2 := 36) op184_33 sp_115 rfl em128 rfl ?_
      obtain rfl := Option.some.inj h
      exact ry_rv op184_36 ms_184 rfl
    refine ry_if_ne (tgt := 29) (pc2 := 25) op184_22 (by decide) (by decide) rfl (fun b122 => ?_) (fun b122 => ?_)
    · have gc129 := (if_pos b122).symm.trans gc129
      refine rx_lc (v := 1) (pc2 := 26) op184_25 (by decide) rfl ?_
      refine ry_go (tgt := 33) op184_26 (by decide) (by decide) ?_
      cases gc129
      exact c129 _ _ _ _
    · have gc129 := (if_neg b122).symm.trans gc129
      refine rx_p (L2 := [some (.ref 115), none, none, none]) (S2 := [.ref 115, .ref 115]) (pc2 := 30) op184_29 rfl rfl ?_
      refine rx_gf (v := .long (m121.2 115 14)) (pc2 := 33) op184_30 sp_115 rfl rfl rfl ?_
      cases gc129
      exact c129 _ _ _ _
/-! mo_goBack -/
theorem op181_0 : rn_op 181 0 = some (.aload_n 0, 1, 0, 0, 0) := by decide +kernel
theorem op181_1 : rn_op 181 1 = some (.getfield 7, 3, 11, 0, 3) := by decide +kernel
theorem op181_4 : rn_op 181 4 = some (.iconst 2, 1, 0, 0, 0) := by decide +kernel
theorem op181_5 : rn_op 181 5 = some (.iaload, 1, 0, 0, 0) := by decide +kernel
theorem op181_6 : rn_op 181 6 = some (.iconst 1, 1, 0, 0, 0) := by decide +kernel
theorem op181_7 : rn_op 181 7 = some (.isub, 1, 0, 0, 0) := by decide +kernel
theorem op181_8 : rn_op 181 8 = some (.istore_n 1, 1, 0, 0, 0) := by decide +kernel
theorem op181_9 : rn_op 181 9 = some (.iconst 0, 1, 0, 0, 0) := by decide +kernel
theorem op181_10 : rn_op 181 10 = some (.istore_n 2, 1, 0, 0, 0) := by decide +kernel
theorem op181_11 : rn_op 181 11 = some (.iload_n 2, 1, 0, 0, 0) := by decide +kernel
theorem op181_12 : rn_op 181 12 = some (.iconst 4, 1, 0, 0, 0) := by decide +kernel
theorem op181_13 : rn_op 181 13 = some (.if_icmp .ge 25, 3, 0, 0, 0) := by decide +kernel
theorem op181_16 : rn_op 181 16 = some (.aload_n 0, 1, 0, 0, 0) := by decide +kernel
theorem op181_17 : rn_op 181 17 = some (.getfield 64, 3, 11, 31, 3) := by decide +kernel
theorem op181_20 : rn_op 181 20 = some (.iconst 4, 1, 0, 0, 0) := by decide +kernel
theorem op181_21 : rn_op 181 21 = some (.aload_n 0, 1, 0, 0, 0) := by decide +kernel
theorem op181_22 : rn_op 181 22 = some (.getfield 7, 3, 11, 0, 3) := by decide +kernel
theorem op181_25 : rn_op 181 25 = some (.iconst 2, 1, 0, 0, 0) := by decide +kernel
theorem op181_26 : rn_op 181 26 = some (.iaload, 1, 0, 0, 0) := by decide +kernel
theorem op181_27 : rn_op 181 27 = some (.imul, 1, 0, 0, 0) := by decide +kernel
theorem op181_28 : rn_op 181 28 = some (.iload_n 2, 1, 0, 0, 0) := by decide +kernel
theorem op181_29 : rn_op 181 29 = some (.iadd, 1, 0, 0, 0) := by decide +kernel
theorem op181_30 : rn_op 181 30 = some (.iconst 0, 1, 0, 0, 0) := by decide +kernel
theorem op181_31 : rn_op 181 31 = some (.iastore, 1, 0, 0, 0) := by decide +kernel
theorem op181_32 : rn_op 181 32 = some (.iinc 2 1, 3, 0, 0, 0) := by decide +kernel
theorem op181_35 : rn_op 181 35 = some (.goto (-24), 3, 0, 0, 0) := by decide +kernel
theorem op181_38 : rn_op 181 38 = some (.aload_n 0, 1, 0, 0, 0) := by decide +kernel
theorem op181_39 : rn_op 181 39 = some (.getfield 67, 3, 11, 32, 3) := by decide +kernel
theorem op181_42 : rn_op 181 42 = some (.aload_n 0, 1, 0, 0, 0) := by decide +kernel
theorem op181_43 : rn_op 181 43 = some (.getfield 7, 3, 11, 0, 3) := by decide +kernel
theorem op181_46 : rn_op 181 46 = some (.iconst 2, 1, 0, 0, 0) := by decide +kernel
theorem op181_47 : rn_op 181 47 = some (.iaload, 1, 0, 0, 0) := by decide +kernel
theorem op181_48 : rn_op 181 48 = some (.iconst 0, 1, 0, 0, 0) := by decide +kernel
theorem op181_49 : rn_op 181 49 = some (.iastore, 1, 0, 0, 0) := by decide +kernel
theorem op181_50 : rn_op 181 50 = some (.aload_n 0, 1, 0, 0, 0) := by decide +kernel
theorem op181_51 : rn_op 181 51 = some (.getfield 61, 3, 11, 30, 3) := by decide +kernel
theorem op181_54 : rn_op 181 54 = some (.iload_n 1, 1, 0, 0, 0) := by decide +kernel
theorem op181_55 : rn_op 181 55 = some (.iconst 0, 1, 0, 0, 0) := by decide +kernel
theorem op181_56 : rn_op 181 56 = some (.iastore, 1, 0, 0, 0) := by decide +kernel
theorem op181_57 : rn_op 181 57 = some (.iload_n 1, 1, 0, 0, 0) := by decide +kernel
theorem op181_58 : rn_op 181 58 = some (.aload_n 0, 1, 0, 0, 0) := by decide +kernel
theorem op181_59 : rn_op 181 59 = some (.getfield 7, 3, 11, 0, 3) := by decide +kernel
theorem op181_62 : rn_op 181 62 = some (.iconst 2, 1, 0, 0, 0) := by decide +kernel
theorem op181_63 : rn_op 181 63 = some (.iaload, 1, 0, 0, 0) := by decide +kernel
theorem op181_64 : rn_op 181 64 = some (.if_icmp .ge 106, 3, 0, 0, 0) := by decide +kernel
theorem op181_67 : rn_op 181 67 = some (.aload_n 0, 1, 0, 0, 0) := by decide +kernel
theorem op181_68 : rn_op 181 68 = some (.invokevirtual 235, 3, 176, 1, 11) := by decide +kernel
theorem op181_71 : rn_op 181 71 = some (.ifCond .ne 99, 3, 0, 0, 0) := by decide +kernel
theorem op181_74 : rn_op 181 74 = some (.aload_n 0, 1, 0, 0, 0) := by decide +kernel
theorem op181_75 : rn_op 181 75 = some (.getfield 61, 3, 11, 30, 3) := by decide +kernel
theorem op181_78 : rn_op 181 78 = some (.iload_n 1, 1, 0, 0, 0) := by decide +kernel
theorem op181_79 : rn_op 181 79 = some (.iaload, 1, 0, 0, 0) := by decide +kernel
theorem op181_80 : rn_op 181 80 = some (.aload_n 0, 1, 0, 0, 0) := by decide +kernel
theorem op181_81 : rn_op 181 81 = some (.getfield 58, 3, 11, 29, 3) := by decide +kernel
theorem op181_84 : rn_op 181 84 = some (.iload_n 1, 1, 0, 0, 0) := by decide +kernel
theorem op181_85 : rn_op 181 85 = some (.iaload, 1, 0, 0, 0) := by decide +kernel
theorem op181_86 : rn_op 181 86 = some (.if_icmp .ne 29, 3, 0, 0, 0) := by decide +kernel
theorem op181_89 : rn_op 181 89 = some (.iinc 1 1, 3, 0, 0, 0) := by decide +kernel
theorem op181_92 : rn_op 181 92 = some (.iload_n 1, 1, 0, 0, 0) := by decide +kernel
theorem op181_93 : rn_op 181 93 = some (.aload_n 0, 1, 0, 0, 0) := by decide +kernel
theorem op181_94 : rn_op 181 94 = some (.getfield 7, 3, 11, 0, 3) := by decide +kernel
theorem op181_97 : rn_op 181 97 = some (.iconst 2, 1, 0, 0, 0) := by decide +kernel
theorem op181_98 : rn_op 181 98 = some (.iaload, 1, 0, 0, 0) := by decide +kernel
theorem op181_99 : rn_op 181 99 = some (.if_icmp .ge (-42), 3, 0, 0, 0) := by decide +kernel
theorem op181_102 : rn_op 181 102 = some (.aload_n 0, 1, 0, 0, 0) := by decide +kernel
theorem op181_103 : rn_op 181 103 = some (.getfield 61, 3, 11, 30, 3) := by decide +kernel
theorem op181_106 : rn_op 181 106 = some (.iload_n 1, 1, 0, 0, 0) := by decide +kernel
theorem op181_107 : rn_op 181 107 = some (.dup2, 1, 0, 0, 0) := by decide +kernel
theorem op181_108 : rn_op 181 108 = some (.iaload, 1, 0, 0, 0) := by decide +kernel
theorem op181_109 : rn_op 181 109 = some (.iconst 1, 1, 0, 0, 0) := by decide +kernel
theorem op181_110 : rn_op 181 110 = some (.iadd, 1, 0, 0, 0) := by decide +kernel
theorem op181_111 : rn_op 181 111 = some (.iastore, 1, 0, 0, 0) := by decide +kernel
theorem op181_112 : rn_op 181 112 = some (.goto (-55), 3, 0, 0, 0) := by decide +kernel
theorem op181_115 : rn_op 181 115 = some (.aload_n 0, 1, 0, 0, 0) := by decide +kernel
theorem op181_116 : rn_op 181 116 = some (.iload_n 1, 1, 0, 0, 0) := by decide +kernel
theorem op181_117 : rn_op 181 117 = some (.invokevirtual 254, 3, 182, 2, 11) := by decide +kernel
theorem op181_120 : rn_op 181 120 = some (.ifCond .ne 16, 3, 0, 0, 0) := by decide +kernel
theorem op181_123 : rn_op 181 123 = some (.aload_n 0, 1, 0, 0, 0) := by decide +kernel
theorem op181_124 : rn_op 181 124 = some (.getfield 61, 3, 11, 30, 3) := by decide +kernel
theorem op181_127 : rn_op 181 127 = some (.iload_n 1, 1, 0, 0, 0) := by decide +kernel
theorem op181_128 : rn_op 181 128 = some (.dup2, 1, 0, 0, 0) := by decide +kernel
theorem op181_129 : rn_op 181 129 = some (.iaload, 1, 0, 0, 0) := by decide +kernel
theorem op181_130 : rn_op 181 130 = some (.iconst 1, 1, 0, 0, 0) := by decide +kernel
theorem op181_131 : rn_op 181 131 = some (.iadd, 1, 0, 0, 0) := by decide +kernel
theorem op181_132 : rn_op 181 132 = some (.iastore, 1, 0, 0, 0) := by decide +kernel
theorem op181_133 : rn_op 181 133 = some (.goto (-76), 3, 0, 0, 0) := by decide +kernel
theorem op181_136 : rn_op 181 136 = some (.iload_n 1, 1, 0, 0, 0) := by decide +kernel
theorem op181_137 : rn_op 181 137 = some (.ifCond .le 16, 3, 0, 0, 0) := by decide +kernel
theorem op181_140 : rn_op 181 140 = some (.iinc 1 (-1), 3, 0, 0, 0) := by decide +kernel
theorem op181_143 : rn_op 181 143 = some (.aload_n 0, 1, 0, 0, 0) := by decide +kernel
theorem op181_144 : rn_op 181 144 = some (.getfield 61, 3, 11, 30, 3) := by decide +kernel
theorem op181_147 : rn_op 181 147 = some (.iload_n 1, 1, 0, 0, 0) := by decide +kernel
theorem op181_148 : rn_op 181 148 = some (.iconst 0, 1, 0, 0, 0) := by decide +kernel
theorem op181_149 : rn_op 181 149 = some (.iastore, 1, 0, 0, 0) := by decide +kernel
theorem op181_150 : rn_op 181 150 = some (.goto (-93), 3, 0, 0, 0) := by decide +kernel
theorem op181_153 : rn_op 181 153 = some (.aload_n 0, 1, 0, 0, 0) := by decide +kernel
theorem op181_154 : rn_op 181 154 = some (.invokevirtual 257, 3, 184, 1, 11) := by decide +kernel
theorem op181_157 : rn_op 181 157 = some (.aload_n 0, 1, 0, 0, 0) := by decide +kernel
theorem op181_158 : rn_op 181 158 = some (.getfield 61, 3, 11, 30, 3) := by decide +kernel
theorem op181_161 : rn_op 181 161 = some (.iconst 0, 1, 0, 0, 0) := by decide +kernel
theorem op181_162 : rn_op 181 162 = some (.dup2, 1, 0, 0, 0) := by decide +kernel
theorem op181_163 : rn_op 181 163 = some (.iaload, 1, 0, 0, 0) := by decide +kernel
theorem op181_164 : rn_op 181 164 = some (.iconst 1, 1, 0, 0, 0) := by decide +kernel
theorem op181_165 : rn_op 181 165 = some (.iadd, 1, 0, 0, 0) := by decide +kernel
theorem op181_166 : rn_op 181 166 = some (.iastore, 1, 0, 0, 0) := by decide +kernel
theorem op181_167 : rn_op 181 167 = some (.goto (-110), 3, 0, 0, 0) := by decide +kernel
theorem op181_170 : rn_op 181 170 = some (.return_, 1, 0, 0, 0) := by decide +kernel
def mo_goBack_l11 (a1 : Int32) : Nat → Int32 → rn_Mem → Option (rn_Mem)
  | 0, _, _ => none
  | n + 1, a2, m =>
    if a2 < 4 then
      if rn_in (((4 : Int32) * (m.1 116 2)) + a2) 20 = true then
        (some (rm_i m 134 (((4 : Int32) * (m.1 116 2)) + a2).toNatClampNeg 0)).bind fun (m3 : rn_Mem) =>
        (some (a2 + 1)).bind fun (x5 : Int32) =>
        mo_goBack_l11 a1 n x5 m3
      else none
    else
      some m
def mo_goBack_l57  : Nat → Int32 → rn_Mem → Option (rn_Mem)
  | 0, _, _ => none
  | n + 1, a1, m =>
    if a1 < (m.1 116 2) then
      (mo_isDone n m).bind fun (r14, m13) =>
      if r14 = 0 then
        if rn_in a1 4 = true then
          if rn_in a1 4 = true then
            if (m13.1 133 a1.toNatClampNeg) = (m13.1 132 a1.toNatClampNeg) then
              (some (a1 + 1)).bind fun (x20 : Int32) =>
              if x20 < (m13.1 116 2) then
                if rn_in x20 4 = true then
                  if rn_in x20 4 = true then
                    (some (rm_i m13 133 x20.toNatClampNeg ((m13.1 133 x20.toNatClampNeg) + 1))).bind fun (m23 : rn_Mem) =>
                    mo_goBack_l57 n x20 m23
                  else none
                else none
              else
                mo_goBack_l57 n x20 m13
            else
              (mo_layTrick n a1 m13).bind fun (r26, m25) =>
              if r26 = 0 then
                if rn_in a1 4 = true then
                  if rn_in a1 4 = true then
                    (some (rm_i m25 133 a1.toNatClampNeg ((m25.1 133 a1.toNatClampNeg) + 1))).bind fun (m30 : rn_Mem) =>
                    mo_goBack_l57 n a1 m30
                  else none
                else none
              else
                if 0 < a1 then
                  (some (a1 + (-1))).bind fun (x33 : Int32) =>
                  if rn_in x33 4 = true then
                    (some (rm_i m25 133 x33.toNatClampNeg 0)).bind fun (m34 : rn_Mem) =>
                    mo_goBack_l57 n x33 m34
                  else none
                else
                  (mo_keepPlay n m25).bind fun m36 =>
                  (some (rm_i m36 133 0 ((m36.1 133 0) + 1))).bind fun (m38 : rn_Mem) =>
                  mo_goBack_l57 n a1 m38
          else none
        else none
      else
        some m13
    else
      some m
def mo_goBack (n : Nat)  (m : rn_Mem) : Option (rn_Mem) :=
  (some ((m.1 116 2) - 1)).bind fun (x1 : Int32) =>
  (mo_goBack_l11 x1 n 0 m).bind fun m6 =>
  if rn_in (m6.1 116 2) 5 = true then
    (some (rm_i m6 135 (m6.1 116 2).toNatClampNeg 0)).bind fun (m8 : rn_Mem) =>
    if rn_in x1 4 = true then
      (some (rm_i m8 133 x1.toNatClampNeg 0)).bind fun (m10 : rn_Mem) =>
      (mo_goBack_l57 n x1 m10).bind fun m39 =>
      some m39
    else none
  else none
set_option maxHeartbeats 4000000 in
set_option maxRecDepth 20000 in
theorem mo_goBack_l11_ok (xs : List Int32) {d : Nat} (hd : 3 ≤ d + 1) {a1 : Int32} {r : Option Value} {τ : rn_H} {out : rn_Mem} (hr : ∀ (mO : rn_Mem), out = mO → ∀ (o2 : Option Value), rn_R xs (d + 1) 181 38 [some (.ref 115), some (.int a1), o2] [] (rn_SH, mO) r τ) : ∀ (n : Nat) (a2 : Int32) (m : rn_Mem), mo_goBack_l11 a1 n a2 m = some out → rn_R xs (d + 1) 181 11 [some (.ref 115), some (.int a1), some (.int a2)] [] (rn_SH, m) r τ := by
  intro n
  induction n with
  | zero =>
    intro _ _ h
    cases h
  | succ n ih =>
    intro a2 m h
    unfold mo_goBack_l11 at h
    try dsimp only at h
    refine rx_p (L2 := [some (.ref 115), some (.int a1), some (.int a2)]) (S2 := [.int a2]) (pc2 := 12) op181_11 rfl rfl ?_
    refine rx_ic (v := 4) (pc2 := 13) op181_12 (by decide) rfl ?_
    refine ry_ic_ge (tgt := 38) (pc2 := 16) op181_13 (by decide) (by decide) rfl (fun b2 => ?_) (fun b2 => ?_)
    · have h := (if_pos b2).symm.trans h
      refine rx_p (L2 := [some (.ref 115), some (.int a1), some (.int a2)]) (S2 := [.ref 115]) (pc2 := 17) op181_16 rfl rfl ?_
      refine rx_gf (v := .ref 134) (pc2 := 20) op181_17 sp_115 rfl rfl rfl ?_
      refine rx_ic (v := 4) (pc2 := 21) op181_20 (by decide) rfl ?_
      refine rx_p (L2 := [some (.ref 115), some (.int a1), some (.int a2)]) (S2 := [.ref 115, .int 4, .ref 134]) (pc2 := 22) op181_21 rfl rfl ?_
      refine rx_gf (v := .ref 116) (pc2 := 25) op181_22 sp_115 rfl rfl rfl ?_
      refine rx_ic (v := 2) (pc2 := 26) op181_25 (by decide) rfl ?_
      refine rx_ia (j := 2) (pc2 := 27) op181_26 (rn_shlt sp_116) sp_116 (by decide) (by decide) rfl ?_
      refine rx_p (L2 := [some (.ref 115), some (.int a1), some (.int a2)]) (S2 := [.int ((4 : Int32) * (m.1 116 2)), .ref 134]) (pc2 := 28) op181_27 rfl rfl ?_
      refine rx_p (L2 := [some (.ref 115), some (.int a1), some (.int a2)]) (S2 := [.int a2, .int ((4 : Int32) * (m.1 116 2)), .ref 134]) (pc2 := 29) op181_28 rfl rfl ?_
      refine rx_p (L2 := [some (.ref 115), some (.int a1), some (.int a2)]) (S2 := [.int (((4 : Int32) * (m.1 116 2)) + a2), .ref 134]) (pc2 := 30) op181_29 rfl rfl ?_
      refine rx_ic (v := 0) (pc2 := 31) op181_30 (by decide) rfl ?_
      obtain ⟨k4, h⟩ := rq_chk h
      obtain ⟨m3, em3, h⟩ := rq_bv h
      refine rx_is (m2 := m3) (pc2 := 32) op181_31 sp_134 k4 rfl em3 rfl ?_
      obtain ⟨x5, ex5, h⟩ := rq_bv h
      refine rx_inc (w := 1) (v := x5) (L2 := [some (.ref 115), some (.int a1), some (.int x5)]) (pc2 := 35) op181_32 rfl (by decide) ex5 rfl rfl ?_
      refine ry_go (tgt := 11) op181_35 (by decide) (by decide) ?_
      exact ih _ _ h
    · have h := (if_neg b2).symm.trans h
      cases h
      exact hr _ rfl _
set_option maxHeartbeats 4000000 in
set_option maxRecDepth 20000 in
theorem mo_goBack_l57_ok (xs : List Int32) {d : Nat} (hd : 3 ≤ d + 1) {r : Option Value} {τ : rn_H} {out : rn_Mem} (hr : ∀ (mO : rn_Mem), out = mO → ∀ (o0 o1 o2 : Option Value), rn_R xs (d + 1) 181 170 [o0, o1, o2] [] (rn_SH, mO) r τ) : ∀ (n : Nat) (a1 : Int32) (o2 : Option Value) (m : rn_Mem), mo_goBack_l57 n a1 m = some out → rn_R xs (d + 1) 181 57 [some (.ref 115), some (.int a1), o2] [] (rn_SH, m) r τ := by
  intro n
  induction n with
  | zero =>
    intro _ _ _ h
    cases h
  | succ n ih =>
    intro a1 o2 m h
    unfold mo_goBack_l57 at h
    try dsimp only at h
    refine rx_p (L2 := [some (.ref 115), some (.int a1), o2]) (S2 := [.int a1]) (pc2 := 58) op181_57 rfl rfl ?_
    refine rx_p (L2 := [some (.ref 115), some (.int a1), o2]) (S2 := [.ref 115, .int a1]) (pc2 := 59) op181_58 rfl rfl ?_
    refine rx_gf (v := .ref 116) (pc2 := 62) op181_59 sp_115 rfl rfl rfl ?_
    refine rx_ic (v := 2) (pc2 := 63) op181_62 (by decide) rfl ?_
    refine rx_ia (j := 2) (pc2 := 64) op181_63 (rn_shlt sp_116) sp_116 (by decide) (by decide) rfl ?_
    refine ry_ic_ge (tgt := 170) (pc2 := 67) op181_64 (by decide) (by decide) rfl (fun b12 => ?_) (fun b12 => ?_)
    · have h := (if_pos b12).symm.trans h
      refine rx_p (L2 := [some (.ref 115), some (.int a1), o2]) (S2 := [.ref 115]) (pc2 := 68) op181_67 rfl rfl ?_
      obtain ⟨⟨r14, m13⟩, f15, h⟩ := rq_bind h
      try dsimp only at h
      refine ry_iv (p := 115) (vs := []) (T := []) (pc2 := 71) op181_68 ms_176 (by decide) rfl rfl (Nat.le_of_ble_eq_true rfl) (Nat.le_of_ble_eq_true rfl) sp_115 (mo_isDone_ok xs (by omega)  f15) rfl ?_
      show rn_R _ _ _ _ _ [.int r14] _ _ _
      refine ry_if_ne (tgt := 170) (pc2 := 74) op181_71 (by decide) (by decide) rfl (fun b16 => ?_) (fun b16 => ?_)
      · have h := (if_pos b16).symm.trans h
        refine rx_p (L2 := [some (.ref 115), some (.int a1), o2]) (S2 := [.ref 115]) (pc2 := 75) op181_74 rfl rfl ?_
        refine rx_gf (v := .ref 133) (pc2 := 78) op181_75 sp_115 rfl rfl rfl ?_
        refine rx_p (L2 := [some (.ref 115), some (.int a1), o2]) (S2 := [.int a1, .ref 133]) (pc2 := 79) op181_78 rfl rfl ?_
        obtain ⟨k17, h⟩ := rq_chk h
        refine rx_ia (pc2 := 80) op181_79 (rn_shlt sp_133) sp_133 k17 rfl rfl ?_
        refine rx_p (L2 := [some (.ref 115), some (.int a1), o2]) (S2 := [.ref 115, .int (m13.1 133 a1.toNatClampNeg)]) (pc2 := 81) op181_80 rfl rfl ?_
        refine rx_gf (v := .ref 132) (pc2 := 84) op181_81 sp_115 rfl rfl rfl ?_
        refine rx_p (L2 := [some (.ref 115), some (.int a1), o2]) (S2 := [.int a1, .ref 132, .int (m13.1 133 a1.toNatClampNeg)]) (pc2 := 85) op181_84 rfl rfl ?_
        obtain ⟨k18, h⟩ := rq_chk h
        refine rx_ia (pc2 := 86) op181_85 (rn_shlt sp_132) sp_132 k18 rfl rfl ?_
        refine ry_ic_ne (tgt := 115) (pc2 := 89) op181_86 (by decide) (by decide) rfl (fun b19 => ?_) (fun b19 => ?_)
        · have h := (if_pos b19).symm.trans h
          obtain ⟨x20, ex20, h⟩ := rq_bv h
          refine rx_inc (w := 1) (v := x20) (L2 := [some (.ref 115), some (.int x20), o2]) (pc2 := 92) op181_89 rfl (by decide) ex20 rfl rfl ?_
          refine rx_p (L2 := [some (.ref 115), some (.int x20), o2]) (S2 := [.int x20]) (pc2 := 93) op181_92 rfl rfl ?_
          refine rx_p (L2 := [some (.ref 115), some (.int x20), o2]) (S2 := [.ref 115, .int x20]) (pc2 := 94) op181_93 rfl rfl ?_
          refine rx_gf (v := .ref 116) (pc2 := 97) op181_94 sp_115 rfl rfl rfl ?_
          refine rx_ic (v := 2) (pc2 := 98) op181_97 (by decide) rfl ?_
          refine rx_ia (j := 2) (pc2 := 99) op181_98 (rn_shlt sp_116) sp_116 (by decide) (by decide) rfl ?_
          refine ry_ic_ge (tgt := 57) (pc2 := 102) op181_99 (by decide) (by decide) rfl (fun b21 => ?_) (fun b21 => ?_)
          · have h := (if_pos b21).symm.trans h
            refine rx_p (L2 := [some (.ref 115), some (.int x20), o2]) (S2 := [.ref 115]) (pc2 := 103) op181_102 rfl rfl ?_
            refine rx_gf (v := .ref 133) (pc2 := 106) op181_103 sp_115 rfl rfl rfl ?_
            refine rx_p (L2 := [some (.ref 115), some (.int x20), o2]) (S2 := [.int x20, .ref 133]) (pc2 := 107) op181_106 rfl rfl ?_
            refine rx_p (L2 := [some (.ref 115), some (.int x20), o2]) (S2 := [.int x20, .ref 133, .int x20, .ref 133]) (pc2 := 108) op181_107 rfl rfl ?_
            obtain ⟨k22, h⟩ := rq_chk h
            refine rx_ia (pc2 := 109) op181_108 (rn_shlt sp_133) sp_133 k22 rfl rfl ?_
            refine rx_ic (v := 1) (pc2 := 110) op181_109 (by decide) rfl ?_
            refine rx_p (L2 := [some (.ref 115), some (.int x20), o2]) (S2 := [.int ((m13.1 133 x20.toNatClampNeg) + 1), .int x20, .ref 133]) (pc2 := 111) op181_110 rfl rfl ?_
            obtain ⟨k24, h⟩ := rq_chk h
            obtain ⟨m23, em23, h⟩ := rq_bv h
            refine rx_is (m2 := m23) (pc2 := 112) op181_111 sp_133 k24 rfl em23 rfl ?_
            refine ry_go (tgt := 57) op181_112 (by decide) (by decide) ?_
            exact ih _ _ _ h
          · have h := (if_neg b21).symm.trans h
            exact ih _ _ _ h
        · have h := (if_neg b19).symm.trans h
          refine rx_p (L2 := [some (.ref 115), some (.int a1), o2]) (S2 := [.ref 115]) (pc2 := 116) op181_115 rfl rfl ?_
          refine rx_p (L2 := [some (.ref 115), some (.int a1), o2]) (S2 := [.int a1, .ref 115]) (pc2 := 117) op181_116 rfl rfl ?_
          obtain ⟨⟨r26, m25⟩, f27, h⟩ := rq_bind h
          try dsimp only at h
          refine ry_iv (p := 115) (vs := [.int a1]) (T := []) (pc2 := 120) op181_117 ms_182 (by decide) rfl rfl (Nat.le_of_ble_eq_true rfl) (Nat.le_of_ble_eq_true rfl) sp_115 (mo_layTrick_ok xs (by omega)  f27) rfl ?_
          show rn_R _ _ _ _ _ [.int r26] _ _ _
          refine ry_if_ne (tgt := 136) (pc2 := 123) op181_120 (by decide) (by decide) rfl (fun b28 => ?_) (fun b28 => ?_)
          · have h := (if_pos b28).symm.trans h
            refine rx_p (L2 := [some (.ref 115), some (.int a1), o2]) (S2 := [.ref 115]) (pc2 := 124) op181_123 rfl rfl ?_
            refine rx_gf (v := .ref 133) (pc2 := 127) op181_124 sp_115 rfl rfl rfl ?_
            refine rx_p (L2 := [some (.ref 115), some (.int a1), o2]) (S2 := [.int a1, .ref 133]) (pc2 := 128) op181_127 rfl rfl ?_
            refine rx_p (L2 := [some (.ref 115), some (.int a1), o2]) (S2 := [.int a1, .ref 133, .int a1, .ref 133]) (pc2 := 129) op181_128 rfl rfl ?_
            obtain ⟨k29, h⟩ := rq_chk h
            refine rx_ia (pc2 := 130) op181_129 (rn_shlt sp_133) sp_133 k29 rfl rfl ?_
            refine rx_ic (v := 1) (pc2 := 131) op181_130 (by decide) rfl ?_
            refine rx_p (L2 := [some (.ref 115), some (.int a1), o2]) (S2 := [.int ((m25.1 133 a1.toNatClampNeg) + 1), .int a1, .ref 133]) (pc2 := 132) op181_131 rfl rfl ?_
            obtain ⟨k31, h⟩ := rq_chk h
            obtain ⟨m30, em30, h⟩ := rq_bv h
            refine rx_is (m2 := m30) (pc2 := 133) op181_132 sp_133 k31 rfl em30 rfl ?_
            refine ry_go (tgt := 57) op181_133 (by decide) (by decide) ?_
            exact ih _ _ _ h
          · have h := (if_neg b28).symm.trans h
            refine rx_p (L2 := [some (.ref 115), some (.int a1), o2]) (S2 := [.int a1]) (pc2 := 137) op181_136 rfl rfl ?_
            refine ry_if_le (tgt := 153) (pc2 := 140) op181_137 (by decide) (by decide) rfl (fun b32 => ?_) (fun b32 => ?_)
            · have h := (if_pos b32).symm.trans h
              obtain ⟨x33, ex33, h⟩ := rq_bv h
              refine rx_inc (w := (-1)) (v := x33) (L2 := [some (.ref 115), some (.int x33), o2]) (pc2 := 143) op181_140 rfl (by decide) ex33 rfl rfl ?_
              refine rx_p (L2 := [some (.ref 115), some (.int x33), o2]) (S2 := [.ref 115]) (pc2 := 144) op181_143 rfl rfl ?_
              refine rx_gf (v := .ref 133) (pc2 := 147) op181_144 sp_115 rfl rfl rfl ?_
              refine rx_p (L2 := [some (.ref 115), some (.int x33), o2]) (S2 := [.int x33, .ref 133]) (pc2 := 148) op181_147 rfl rfl ?_
              refine rx_ic (v := 0) (pc2 := 149) op181_148 (by decide) rfl ?_
              obtain ⟨k35, h⟩ := rq_chk h
              obtain ⟨m34, em34, h⟩ := rq_bv h
              refine rx_is (m2 := m34) (pc2 := 150) op181_149 sp_133 k35 rfl em34 rfl ?_
              refine ry_go (tgt := 57) op181_150 (by decide) (by decide) ?_
              exact ih _ _ _ h
            · have h := (if_neg b32).symm.trans h
              refine rx_p (L2 := [some (.ref 115), some (.int a1), o2]) (S2 := [.ref 115]) (pc2 := 154) op181_153 rfl rfl ?_
              obtain ⟨m36, f37, h⟩ := rq_bind h
              try dsimp only at h
              refine ry_iv (p := 115) (vs := []) (T := []) (pc2 := 157) op181_154 ms_184 (by decide) rfl rfl (Nat.le_of_ble_eq_true rfl) (Nat.le_of_ble_eq_true rfl) sp_115 (mo_keepPlay_ok xs (by omega)  f37) rfl ?_
              show rn_R _ _ _ _ _ [] _ _ _
              refine rx_p (L2 := [some (.ref 115), some (.int a1), o2]) (S2 := [.ref 115]) (pc2 := 158) op181_157 rfl rfl ?_
              refine rx_gf (v := .ref 133) (pc2 := 161) op181_158 sp_115 rfl rfl rfl ?_
              refine rx_ic (v := 0) (pc2 := 162) op181_161 (by decide) rfl ?_
              refine rx_p (L2 := [some (.ref 115), some (.int a1), o2]) (S2 := [.int 0, .ref 133, .int 0, .ref 133]) (pc2 := 163) op181_162 rfl rfl ?_
              refine rx_ia (j := 0) (pc2 := 164) op181_163 (rn_shlt sp_133) sp_133 (by decide) (by decide) rfl ?_
              refine rx_ic (v := 1) (pc2 := 165) op181_164 (by decide) rfl ?_
              refine rx_p (L2 := [some (.ref 115), some (.int a1), o2]) (S2 := [.int ((m36.1 133 0) + 1), .int 0, .ref 133]) (pc2 := 166) op181_165 rfl rfl ?_
              obtain ⟨m38, em38, h⟩ := rq_bv h
              refine rx_is (j := 0) (m2 := m38) (pc2 := 167) op181_166 sp_133 (by decide) (by decide) em38 rfl ?_
              refine ry_go (tgt := 57) op181_167 (by decide) (by decide) ?_
              exact ih _ _ _ h
      · have h := (if_neg b16).symm.trans h
        cases h
        exact hr _ rfl _ _ _
    · have h := (if_neg b12).symm.trans h
      cases h
      exact hr _ rfl _ _ _
set_option maxHeartbeats 4000000 in
set_option maxRecDepth 20000 in
theorem mo_goBack_ok (xs : List Int32) {d : Nat} (hd : 3 ≤ d) {n : Nat} {m mO : rn_Mem} (h : mo_goBack n  m = some mO) : rn_R xs d 181 0 (rn_ent 3 [.ref 115]) [] (rn_SH, m) none (rn_SH, mO) := by
  obtain ⟨d, rfl⟩ : ∃ e, d = e + 1 := ⟨d - 1, by omega⟩
  unfold mo_goBack at h
  show rn_R xs (d + 1) 181 0 [some (.ref 115), none, none] [] (rn_SH, m) none (rn_SH, mO)
  refine rx_p (L2 := [some (.ref 115), none, none]) (S2 := [.ref 115]) (pc2 := 1) op181_0 rfl rfl ?_
  refine rx_gf (v := .ref 116) (pc2 := 4) op181_1 sp_115 rfl rfl rfl ?_
  refine rx_ic (v := 2) (pc2 := 5) op181_4 (by decide) rfl ?_
  refine rx_ia (j := 2) (pc2 := 6) op181_5 (rn_shlt sp_116) sp_116 (by decide) (by decide) rfl ?_
  refine rx_ic (v := 1) (pc2 := 7) op181_6 (by decide) rfl ?_
  refine rx_p (L2 := [some (.ref 115), none, none]) (S2 := [.int ((m.1 116 2) - 1)]) (pc2 := 8) op181_7 rfl rfl ?_
  obtain ⟨x1, ex1, h⟩ := rq_bv h
  refine rx_s (v := x1) (L2 := [some (.ref 115), some (.int x1), none]) (pc2 := 9) op181_8 ex1 rfl rfl ?_
  refine rx_ic (v := 0) (pc2 := 10) op181_9 (by decide) rfl ?_
  refine rx_s (L2 := [some (.ref 115), some (.int x1), some (.int 0)]) (pc2 := 11) op181_10 rfl rfl rfl ?_
  obtain ⟨m6, f44, h⟩ := rq_bind h
  refine mo_goBack_l11_ok xs hd (fun m0 eq => ?_) _ _ _  f44
  subst eq
  try dsimp only at h
  intro o7
  refine rx_p (L2 := [some (.ref 115), some (.int x1), o7]) (S2 := [.ref 115]) (pc2 := 39) op181_38 rfl rfl ?_
  refine rx_gf (v := .ref 135) (pc2 := 42) op181_39 sp_115 rfl rfl rfl ?_
  refine rx_p (L2 := [some (.ref 115), some (.int x1), o7]) (S2 := [.ref 115, .ref 135]) (pc2 := 43) op181_42 rfl rfl ?_
  refine rx_gf (v := .ref 116) (pc2 := 46) op181_43 sp_115 rfl rfl rfl ?_
  refine rx_ic (v := 2) (pc2 := 47) op181_46 (by decide) rfl ?_
  refine rx_ia (j := 2) (pc2 := 48) op181_47 (rn_shlt sp_116) sp_116 (by decide) (by decide) rfl ?_
  refine rx_ic (v := 0) (pc2 := 49) op181_48 (by decide) rfl ?_
  obtain ⟨k9, h⟩ := rq_chk h
  obtain ⟨m8, em8, h⟩ := rq_bv h
  refine rx_is (m2 := m8) (pc2 := 50) op181_49 sp_135 k9 rfl em8 rfl ?_
  refine rx_p (L2 := [some (.ref 115), some (.int x1), o7]) (S2 := [.ref 115]) (pc2 := 51) op181_50 rfl rfl ?_
  refine rx_gf (v := .ref 133) (pc2 := 54) op181_51 sp_115 rfl rfl rfl ?_
  refine rx_p (L2 := [some (.ref 115), some (.int x1), o7]) (S2 := [.int x1, .ref 133]) (pc2 := 55) op181_54 rfl rfl ?_
  refine rx_ic (v := 0) (pc2 := 56) op181_55 (by decide) rfl ?_
  obtain ⟨k11, h⟩ := rq_chk h
  obtain ⟨m10, em10, h⟩ := rq_bv h
  refine rx_is (m2 := m10) (pc2 := 57) op181_56 sp_133 k11 rfl em10 rfl ?_
  obtain ⟨m39, f43, h⟩ := rq_bind h
  refine mo_goBack_l57_ok xs hd (fun m0 eq => ?_) _ _ _ _  f43
  subst eq
  try dsimp only at h
  intro o40 o41 o42
  obtain rfl := Option.some.inj h
  exact ry_rv op181_170 ms_181 rfl
