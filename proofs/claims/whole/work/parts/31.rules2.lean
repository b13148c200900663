/-! RUNS, goal first: jumps, calls, ends -/
section RY
variable {xs : List Int32} {d y pc pc2 tgt len a b c : Nat} {L L2 : rn_L} {S S2 T : List Value} {σ σ2 τ : rn_H} {r r2 : Option Value} {off : Int} {x z : Int32}
theorem ry_if {cd : ClassFile.Cond} (hop : rn_op y pc = some (.ifCond cd off, len, a, b, c)) (h0 : 0 ≤ (pc : Int) + off) (ht : rn_tg pc off = tgt) (hpc : pc + 3 = pc2) (k1 : rn_cmp cd x 0 = true → rn_R xs d y tgt L T σ r τ) (k2 : ¬ rn_cmp cd x 0 = true → rn_R xs d y pc2 L T σ r τ) : rn_R xs d y pc L (.int x :: T) σ r τ := by
  subst ht; subst hpc
  refine rx_b hop rfl rfl (pc2 := if rn_cmp cd x 0 = true then rn_tg pc off else pc + 3) (S2 := T) ?_ ?_
  · show (if 0 ≤ (pc : Int) + off then some (if rn_cmp cd x 0 = true then rn_tg pc off else pc + 3, T) else none) = _
    rw [if_pos h0]
  · by_cases h : rn_cmp cd x 0 = true
    · rw [if_pos h]; exact k1 h
    · rw [if_neg h]; exact k2 h
theorem ry_ic {cd : ClassFile.Cond} (hop : rn_op y pc = some (.if_icmp cd off, len, a, b, c)) (h0 : 0 ≤ (pc : Int) + off) (ht : rn_tg pc off = tgt) (hpc : pc + 3 = pc2) (k1 : rn_cmp cd x z = true → rn_R xs d y tgt L T σ r τ) (k2 : ¬ rn_cmp cd x z = true → rn_R xs d y pc2 L T σ r τ) : rn_R xs d y pc L (.int z :: .int x :: T) σ r τ := by
  subst ht; subst hpc
  refine rx_b hop rfl rfl (pc2 := if rn_cmp cd x z = true then rn_tg pc off else pc + 3) (S2 := T) ?_ ?_
  · show (if 0 ≤ (pc : Int) + off then some (if rn_cmp cd x z = true then rn_tg pc off else pc + 3, T) else none) = _
    rw [if_pos h0]
  · by_cases h : rn_cmp cd x z = true
    · rw [if_pos h]; exact k1 h
    · rw [if_neg h]; exact k2 h
theorem rq_eq {x z : Int32} : rn_cmp .eq x z = true ↔ x = z := decide_eq_true_iff
theorem rq_ne {x z : Int32} : rn_cmp .ne x z = true ↔ ¬ x = z := decide_eq_true_iff
theorem rq_lt {x z : Int32} : rn_cmp .lt x z = true ↔ x < z := decide_eq_true_iff
theorem rq_ge {x z : Int32} : rn_cmp .ge x z = true ↔ ¬ x < z := decide_eq_true_iff.trans Int32.not_lt.symm
theorem rq_gt {x z : Int32} : rn_cmp .gt x z = true ↔ z < x := decide_eq_true_iff
theorem rq_le {x z : Int32} : rn_cmp .le x z = true ↔ ¬ z < x := decide_eq_true_iff.trans Int32.not_lt.symm
theorem ry_if_eq (hop : rn_op y pc = some (.ifCond .eq off, len, a, b, c)) (h0 : 0 ≤ (pc : Int) + off) (ht : rn_tg pc off = tgt) (hpc : pc + 3 = pc2) (k1 : x = 0 → rn_R xs d y tgt L T σ r τ) (k2 : ¬ x = 0 → rn_R xs d y pc2 L T σ r τ) : rn_R xs d y pc L (.int x :: T) σ r τ := ry_if hop h0 ht hpc (fun h => k1 (rq_eq.mp h)) (fun h => k2 (fun w => h (rq_eq.mpr w)))
theorem ry_if_ne (hop : rn_op y pc = some (.ifCond .ne off, len, a, b, c)) (h0 : 0 ≤ (pc : Int) + off) (ht : rn_tg pc off = tgt) (hpc : pc + 3 = pc2) (k1 : x = 0 → rn_R xs d y pc2 L T σ r τ) (k2 : ¬ x = 0 → rn_R xs d y tgt L T σ r τ) : rn_R xs d y pc L (.int x :: T) σ r τ := ry_if hop h0 ht hpc (fun h => k2 (rq_ne.mp h)) (fun h => k1 (Classical.not_not.mp fun w => h (rq_ne.mpr w)))
theorem ry_if_lt (hop : rn_op y pc = some (.ifCond .lt off, len, a, b, c)) (h0 : 0 ≤ (pc : Int) + off) (ht : rn_tg pc off = tgt) (hpc : pc + 3 = pc2) (k1 : x < 0 → rn_R xs d y tgt L T σ r τ) (k2 : ¬ x < 0 → rn_R xs d y pc2 L T σ r τ) : rn_R xs d y pc L (.int x :: T) σ r τ := ry_if hop h0 ht hpc (fun h => k1 (rq_lt.mp h)) (fun h => k2 (fun w => h (rq_lt.mpr w)))
theorem ry_if_ge (hop : rn_op y pc = some (.ifCond .ge off, len, a, b, c)) (h0 : 0 ≤ (pc : Int) + off) (ht : rn_tg pc off = tgt) (hpc : pc + 3 = pc2) (k1 : x < 0 → rn_R xs d y pc2 L T σ r τ) (k2 : ¬ x < 0 → rn_R xs d y tgt L T σ r τ) : rn_R xs d y pc L (.int x :: T) σ r τ := ry_if hop h0 ht hpc (fun h => k2 (rq_ge.mp h)) (fun h => k1 (Classical.not_not.mp fun w => h (rq_ge.mpr w)))
theorem ry_if_gt (hop : rn_op y pc = some (.ifCond .gt off, len, a, b, c)) (h0 : 0 ≤ (pc : Int) + off) (ht : rn_tg pc off = tgt) (hpc : pc + 3 = pc2) (k1 : 0 < x → rn_R xs d y tgt L T σ r τ) (k2 : ¬ 0 < x → rn_R xs d y pc2 L T σ r τ) : rn_R xs d y pc L (.int x :: T) σ r τ := ry_if hop h0 ht hpc (fun h => k1 (rq_gt.mp h)) (fun h => k2 (fun w => h (rq_gt.mpr w)))
theorem ry_if_le (hop : rn_op y pc = some (.ifCond .le off, len, a, b, c)) (h0 : 0 ≤ (pc : Int) + off) (ht : rn_tg pc off = tgt) (hpc : pc + 3 = pc2) (k1 : 0 < x → rn_R xs d y pc2 L T σ r τ) (k2 : ¬ 0 < x → rn_R xs d y tgt L T σ r τ) : rn_R xs d y pc L (.int x :: T) σ r τ := ry_if hop h0 ht hpc (fun h => k2 (rq_le.mp h)) (fun h => k1 (Classical.not_not.mp fun w => h (rq_le.mpr w)))
theorem ry_ic_eq (hop : rn_op y pc = some (.if_icmp .eq off, len, a, b, c)) (h0 : 0 ≤ (pc : Int) + off) (ht : rn_tg pc off = tgt) (hpc : pc + 3 = pc2) (k1 : x = z → rn_R xs d y tgt L T σ r τ) (k2 : ¬ x = z → rn_R xs d y pc2 L T σ r τ) : rn_R xs d y pc L (.int z :: .int x :: T) σ r τ := ry_ic hop h0 ht hpc (fun h => k1 (rq_eq.mp h)) (fun h => k2 (fun w => h (rq_eq.mpr w)))
theorem ry_ic_ne (hop : rn_op y pc = some (.if_icmp .ne off, len, a, b, c)) (h0 : 0 ≤ (pc : Int) + off) (ht : rn_tg pc off = tgt) (hpc : pc + 3 = pc2) (k1 : x = z → rn_R xs d y pc2 L T σ r τ) (k2 : ¬ x = z → rn_R xs d y tgt L T σ r τ) : rn_R xs d y pc L (.int z :: .int x :: T) σ r τ := ry_ic hop h0 ht hpc (fun h => k2 (rq_ne.mp h)) (fun h => k1 (Classical.not_not.mp fun w => h (rq_ne.mpr w)))
theorem ry_ic_lt (hop : rn_op y pc = some (.if_icmp .lt off, len, a, b, c)) (h0 : 0 ≤ (pc : Int) + off) (ht : rn_tg pc off = tgt) (hpc : pc + 3 = pc2) (k1 : x < z → rn_R xs d y tgt L T σ r τ) (k2 : ¬ x < z → rn_R xs d y pc2 L T σ r τ) : rn_R xs d y pc L (.int z :: .int x :: T) σ r τ := ry_ic hop h0 ht hpc (fun h => k1 (rq_lt.mp h)) (fun h => k2 (fun w => h (rq_lt.mpr w)))
theorem ry_ic_ge (hop : rn_op y pc = some (.if_icmp .ge off, len, a, b, c)) (h0 : 0 ≤ (pc : Int) + off) (ht : rn_tg pc off = tgt) (hpc : pc + 3 = pc2) (k1 : x < z → rn_R xs d y pc2 L T σ r τ) (k2 : ¬ x < z → rn_R xs d y tgt L T σ r τ) : rn_R xs d y pc L (.int z :: .int x :: T) σ r τ := ry_ic hop h0 ht hpc (fun h => k2 (rq_ge.mp h)) (fun h => k1 (Classical.not_not.mp fun w => h (rq_ge.mpr w)))
theorem ry_ic_gt (hop : rn_op y pc = some (.if_icmp .gt off, len, a, b, c)) (h0 : 0 ≤ (pc : Int) + off) (ht : rn_tg pc off = tgt) (hpc : pc + 3 = pc2) (k1 : z < x → rn_R xs d y tgt L T σ r τ) (k2 : ¬ z < x → rn_R xs d y pc2 L T σ r τ) : rn_R xs d y pc L (.int z :: .int x :: T) σ r τ := ry_ic hop h0 ht hpc (fun h => k1 (rq_gt.mp h)) (fun h => k2 (fun w => h (rq_gt.mpr w)))
theorem ry_ic_le (hop : rn_op y pc = some (.if_icmp .le off, len, a, b, c)) (h0 : 0 ≤ (pc : Int) + off) (ht : rn_tg pc off = tgt) (hpc : pc + 3 = pc2) (k1 : z < x → rn_R xs d y pc2 L T σ r τ) (k2 : ¬ z < x → rn_R xs d y tgt L T σ r τ) : rn_R xs d y pc L (.int z :: .int x :: T) σ r τ := ry_ic hop h0 ht hpc (fun h => k2 (rq_le.mp h)) (fun h => k1 (Classical.not_not.mp fun w => h (rq_le.mpr w)))
theorem ry_go (hop : rn_op y pc = some (.goto off, len, a, b, c)) (h0 : 0 ≤ (pc : Int) + off) (ht : rn_tg pc off = tgt) (k : rn_R xs d y tgt L S σ r τ) : rn_R xs d y pc L S σ r τ := by
  subst ht
  refine rx_b hop rfl rfl (pc2 := rn_tg pc off) (S2 := S) ?_ k
  show (if 0 ≤ (pc : Int) + off then some (rn_tg pc off, S) else none) = _
  rw [if_pos h0]
theorem ry_ti {df lo hi w : Int} {offs : Array Int} (hop : rn_op y pc = some (.tableswitch df lo hi offs, len, a, b, c)) (hx : x.toInt = w) (hr : ¬ (w < lo ∨ hi < w)) (ho : offs[(w - lo).toNat]? = some off) (h0 : 0 ≤ (pc : Int) + off) (ht : rn_tg pc off = tgt) (k : rn_R xs d y tgt L T σ r τ) : rn_R xs d y pc L (.int x :: T) σ r τ := by
  subst ht
  refine rx_b hop rfl rfl (pc2 := rn_tg pc off) (S2 := T) ?_ k
  show (if x.toInt < lo ∨ hi < x.toInt then (if 0 ≤ (pc : Int) + df then some (rn_tg pc df, T) else none) else match offs[(x.toInt - lo).toNat]? with
      | some off => if 0 ≤ (pc : Int) + off then some (rn_tg pc off, T) else none
      | none => none) = _
  rw [hx, if_neg hr, ho]; dsimp only; rw [if_pos h0]
theorem ry_to {df lo hi : Int} {offs : Array Int} (hop : rn_op y pc = some (.tableswitch df lo hi offs, len, a, b, c)) (hr : x.toInt < lo ∨ hi < x.toInt) (h0 : 0 ≤ (pc : Int) + df) (ht : rn_tg pc df = tgt) (k : rn_R xs d y tgt L T σ r τ) : rn_R xs d y pc L (.int x :: T) σ r τ := by
  subst ht
  refine rx_b hop rfl rfl (pc2 := rn_tg pc df) (S2 := T) ?_ k
  show (if x.toInt < lo ∨ hi < x.toInt then (if 0 ≤ (pc : Int) + df then some (rn_tg pc df, T) else none) else _) = _
  rw [if_pos hr, if_pos h0]
theorem ry_lk {df : Int} {ps : Array (Int × Int)} (hop : rn_op y pc = some (.lookupswitch df ps, len, a, b, c)) (hs : (ps.toList.zip (ps.toList.drop 1)).all (fun (a, next) => a.1 < next.1) = true) (ho : Op.lookupswitch.offset ps.toList df x.toInt = off) (h0 : 0 ≤ (pc : Int) + off) (ht : rn_tg pc off = tgt) (k : rn_R xs d y tgt L T σ r τ) : rn_R xs d y pc L (.int x :: T) σ r τ := by
  subst ht; subst ho
  refine rx_b hop rfl rfl (pc2 := rn_tg pc _) (S2 := T) ?_ k
  show (if (ps.toList.zip (ps.toList.drop 1)).all (fun (a, next) => a.1 < next.1) = true then (if 0 ≤ (pc : Int) + Op.lookupswitch.offset ps.toList df x.toInt then some (rn_tg pc (Op.lookupswitch.offset ps.toList df x.toInt), T) else none) else none) = _
  rw [if_pos hs, if_pos h0]
theorem rq_nt {v : Int32} (w : Int) (hw : v.toInt = w) (h : ¬ x = v) : ¬ x.toInt = w := fun e => h (Int32.toInt_inj.mp (e.trans hw.symm))
theorem rq_nw {i : Instr} (h : ∀ j, i ≠ .new j) (h2 : ∀ j, i ≠ .newarray j) (h3 : ∀ j, i ≠ .anewarray j) : rn_nw a i S σ = none := by
  unfold rn_nw
  split
  · split
    · exact absurd rfl (h _)
    · exact absurd rfl (h2 _)
    · exact absurd rfl (h3 _)
    · rfl
  · rfl
theorem ry_cal {i : Instr} {y2 k : Nat} {M2 : rn_M} {vs : List Value} (hop : rn_op y pc = some (i, len, a, b, c)) (g1 : rn_pure a i L S = none) (g2 : rn_rd xs a b i S σ = none) (g3 : rn_br i pc S = none) (g4 : rn_wr a b c i S σ = none) (g5 : rn_nw a i S σ = none) (g6 : rn_cal i a b = some (y2, k)) (hM : rn_ms[y2]? = some M2) (hy : y2 ≠ 0) (hS : S = vs.reverse ++ T) (hb : vs.length = k) (hl : (rn_args vs).length ≤ M2.2.2.1) (h8 : (T.map fun v => v.category).sum ≤ 8) (hr : rn_rcv i c vs σ = true)
    (hc : rn_R xs d y2 0 (rn_ent M2.2.2.1 vs) [] σ r2 σ2) (hpc : pc + 3 = pc2) (kk : rn_R xs (d + 1) y pc2 L (r2.toList ++ T) σ2 r τ) : rn_R xs (d + 1) y pc L S σ r τ := by
  obtain ⟨n1, h1⟩ := hc
  obtain ⟨n2, h2⟩ := kk
  have hrl : vs.reverse.length = k := by rw [List.length_reverse]; exact hb
  have e1 : S.take k = vs.reverse := by rw [hS, List.take_left' hrl]
  have e2 : S.drop k = T := by rw [hS, List.drop_left' hrl]
  refine ⟨max n1 n2 + 1, ?_⟩
  unfold rn_run
  rw [hop]; dsimp only
  rw [g1]; dsimp only
  rw [g2]; dsimp only
  rw [g3]; dsimp only
  rw [g4]; dsimp only
  rw [g5]; dsimp only
  rw [g6]; dsimp only
  rw [hM]; dsimp only
  rw [e1, e2, List.reverse_reverse, if_pos ⟨hy, hl, hrl, h8, hr⟩, rn_fuel_le h1 (Nat.le_max_left n1 n2)]; dsimp only
  rw [hpc]
  exact rn_fuel_le h2 (Nat.le_max_right n1 n2)
theorem ry_iv {ix y2 p n : Nat} {fs : List Nat} {M2 : rn_M} {vs : List Value} (hop : rn_op y pc = some (.invokevirtual ix, len, y2, b, c)) (hM : rn_ms[y2]? = some M2) (hy : y2 ≠ 0) (hS : S = (.ref p :: vs).reverse ++ T) (hb : (Value.ref p :: vs).length = b) (hl : (rn_args (.ref p :: vs)).length ≤ M2.2.2.1) (h8 : (T.map fun v => v.category).sum ≤ 8) (hsh : σ.1[p]? = some (c + 5, n, fs))
    (hc : rn_R xs d y2 0 (rn_ent M2.2.2.1 (.ref p :: vs)) [] σ r2 σ2) (hpc : pc + 3 = pc2) (kk : rn_R xs (d + 1) y pc2 L (r2.toList ++ T) σ2 r τ) : rn_R xs (d + 1) y pc L S σ r τ :=
  ry_cal (vs := .ref p :: vs) hop rfl rfl rfl rfl (rq_nw (by simp) (by simp) (by simp)) rfl hM hy hS hb hl h8 (by unfold rn_rcv; dsimp only; rw [hsh]; simp) hc hpc kk
theorem ry_is {ix y2 : Nat} {M2 : rn_M} {vs : List Value} (hop : rn_op y pc = some (.invokestatic ix, len, y2, b, c)) (hne : y2 ≠ 998) (hM : rn_ms[y2]? = some M2) (hy : y2 ≠ 0) (hS : S = vs.reverse ++ T) (hb : vs.length = b) (hl : (rn_args vs).length ≤ M2.2.2.1) (h8 : (T.map fun v => v.category).sum ≤ 8)
    (hc : rn_R xs d y2 0 (rn_ent M2.2.2.1 vs) [] σ r2 σ2) (hpc : pc + 3 = pc2) (kk : rn_R xs (d + 1) y pc2 L (r2.toList ++ T) σ2 r τ) : rn_R xs (d + 1) y pc L S σ r τ :=
  ry_cal (vs := vs) hop rfl rfl rfl (by show (if y2 = 998 then _ else none) = none; rw [if_neg hne]) (rq_nw (by simp) (by simp) (by simp)) (by show (if y2 = 998 then none else some (y2, b)) = _; rw [if_neg hne]) hM hy hS hb hl h8 rfl hc hpc kk
theorem ry_end {i : Instr} {M : rn_M} (hop : rn_op y pc = some (i, len, a, b, c)) (g1 : rn_pure a i L S = none) (g2 : rn_rd xs a b i S σ = none) (g3 : rn_br i pc S = none) (g4 : rn_wr a b c i S σ = none) (g5 : rn_nw a i S σ = none) (g6 : rn_cal i a b = none) (hM : rn_ms[y]? = some M) (hr : rn_ret M.2.2.2.1 i S = some r) : rn_R xs d y pc L S σ r σ := by
  refine ⟨1, ?_⟩
  unfold rn_run
  rw [hop]; dsimp only
  rw [g1]; dsimp only
  rw [g2]; dsimp only
  rw [g3]; dsimp only
  rw [g4]; dsimp only
  rw [g5]; dsimp only
  rw [g6]; dsimp only
  rw [hM]; dsimp only
  rw [hr]
theorem ry_ri {M : rn_M} (hop : rn_op y pc = some (.ireturn, len, a, b, c)) (hM : rn_ms[y]? = some M) (hr : M.2.2.2.1 = some .int) : rn_R xs d y pc L [.int x] σ (some (.int x)) σ :=
  ry_end hop rfl rfl rfl rfl (rq_nw (by simp) (by simp) (by simp)) rfl hM (by rw [hr]; rfl)
theorem ry_rz {M : rn_M} (hop : rn_op y pc = some (.ireturn, len, a, b, c)) (hM : rn_ms[y]? = some M) (hr : M.2.2.2.1 = some .boolean) (hx : x = 0 ∨ x = 1) : rn_R xs d y pc L [.int x] σ (some (.int x)) σ :=
  ry_end hop rfl rfl rfl rfl (rq_nw (by simp) (by simp) (by simp)) rfl hM (by rw [hr]; show (if x = 0 ∨ x = 1 then some (some (Value.int x)) else none) = _; rw [if_pos hx])
theorem ry_rl {M : rn_M} {w : Int64} (hop : rn_op y pc = some (.lreturn, len, a, b, c)) (hM : rn_ms[y]? = some M) (hr : M.2.2.2.1 = some .long) : rn_R xs d y pc L [.long w] σ (some (.long w)) σ :=
  ry_end hop rfl rfl rfl rfl (rq_nw (by simp) (by simp) (by simp)) rfl hM (by rw [hr]; rfl)
theorem ry_rv {M : rn_M} (hop : rn_op y pc = some (.return_, len, a, b, c)) (hM : rn_ms[y]? = some M) (hr : M.2.2.2.1 = none) : rn_R xs d y pc L [] σ none σ :=
  ry_end hop rfl rfl rfl rfl (rq_nw (by simp) (by simp) (by simp)) rfl hM (by rw [hr]; rfl)
end RY
