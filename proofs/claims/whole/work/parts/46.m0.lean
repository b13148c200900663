/-! the cells and the memory behind the constructors -/
def rn_end (q : Option (Option Value × rn_H)) : rn_H := match q with
  | some (none, τ) => τ
  | _ => rn_s0
def rn_isE (q : Option (Option Value × rn_H)) : Bool := match q with
  | some (none, _) => true
  | _ => false
theorem rn_isE_ok {q : Option (Option Value × rn_H)} (h : rn_isE q = true) : q = some (none, rn_end q) := by
  unfold rn_isE at h
  split at h
  · rfl
  · cases h
def rn_p1 : rn_H := rn_push (15, (rn_kinds 10).length, rn_kinds 10) rn_s0
def rn_r1 : Option (Option Value × rn_H) := rn_runN 60 2000 1 0 (rn_ent 2 [.ref 0]) [] rn_p1
def rn_p2 : rn_H := rn_push (16, (rn_kinds 11).length, rn_kinds 11) (rn_end rn_r1)
def rn_r2 : Option (Option Value × rn_H) := rn_runN 60 2000 145 0 (rn_ent 2 [.ref 115]) [] rn_p2
theorem rn_r1_ok : rn_isE rn_r1 = true := by decide +kernel
theorem rn_r2_ok : rn_isE rn_r2 = true := by decide +kernel
theorem rn_r1_len : (rn_end rn_r1).1.length = 115 := by decide +kernel
theorem rn_r2_sh : (rn_end rn_r2).1 = rn_SH := by decide +kernel
def rn_m00 : rn_Mem := (rn_end rn_r2).2
/-- what stands in the memory at the start -/
def rn_iv (p i : Nat) : Int32 :=
  if p = 4 ∨ p = 20 ∨ p = 36 ∨ p = 52 then (if i = 1 then 2 else if i = 2 then 1 else if i = 4 ∨ i = 8 then -1 else 0)
  else if p = 150 then -1 else 0
theorem rn_m00_1 : ∀ p, p < 153 → ∀ i, i < (rn_SH.getD p (0, 0, [])).2.1 → rn_m00.1 p i = rn_iv p i := by
  have h : ((List.range 153).all fun p => (List.range (rn_SH.getD p (0, 0, [])).2.1).all fun i => decide (rn_m00.1 p i = rn_iv p i)) = true := by decide +kernel
  intro p hp i hi
  have h1 := List.all_eq_true.mp h p (List.mem_range.mpr hp)
  exact of_decide_eq_true (List.all_eq_true.mp h1 i (List.mem_range.mpr hi))
theorem rn_m00_2 : ∀ p, p < 153 → ∀ i, i < (rn_SH.getD p (0, 0, [])).2.1 → rn_m00.2 p i = 0 := by
  have h : ((List.range 153).all fun p => (List.range (rn_SH.getD p (0, 0, [])).2.1).all fun i => decide (rn_m00.2 p i = 0)) = true := by decide +kernel
  intro p hp i hi
  have h1 := List.all_eq_true.mp h p (List.mem_range.mpr hp)
  exact of_decide_eq_true (List.all_eq_true.mp h1 i (List.mem_range.mpr hi))
section RV
variable {xs : List Int32} {d y pc pc2 len a b c : Nat} {L : rn_L} {S S2 T : List Value} {σ σ2 τ : rn_H} {r r2 : Option Value}
theorem rv_new {ix : Nat} (hop : rn_op y pc = some (.new ix, len, a, b, c)) (h : rn_nw a (.new ix) S σ = some (S2, σ2)) (hpc : pc + 3 = pc2) (k : rn_R xs d y pc2 L S2 σ2 r τ) : rn_R xs d y pc L S σ r τ := by
  obtain ⟨n, hn⟩ := k
  refine ⟨n + 1, ?_⟩
  unfold rn_run
  rw [hop]; dsimp only
  rw [show rn_pure a (.new ix) L S = none from rfl]; dsimp only
  rw [show rn_rd xs a b (.new ix) S σ = none from rfl]; dsimp only
  rw [show rn_br (.new ix) pc S = none from rfl]; dsimp only
  rw [show rn_wr a b c (.new ix) S σ = none from rfl]; dsimp only
  rw [h]; dsimp only
  rw [show pc + rn_len (.new ix) len = pc2 from hpc]; exact hn
theorem rv_isp {ix y2 p : Nat} {M2 : rn_M} {vs : List Value} (hop : rn_op y pc = some (.invokespecial ix, len, y2, b, c)) (hne : y2 ≠ 999) (hM : rn_ms[y2]? = some M2) (hy : y2 ≠ 0) (hS : S = (.ref p :: vs).reverse ++ T) (hb : (Value.ref p :: vs).length = b) (hl : (rn_args (.ref p :: vs)).length ≤ M2.2.2.1) (h8 : (T.map fun v => v.category).sum ≤ 8)
    (hc : rn_R xs d y2 0 (rn_ent M2.2.2.1 (.ref p :: vs)) [] σ r2 σ2) (hpc : pc + 3 = pc2) (kk : rn_R xs (d + 1) y pc2 L (r2.toList ++ T) σ2 r τ) : rn_R xs (d + 1) y pc L S σ r τ :=
  ry_cal (vs := .ref p :: vs) hop rfl rfl rfl (by show (if y2 = 999 then _ else none) = none; rw [if_neg hne]) (rq_nw (by simp) (by simp) (by simp)) (by show (if y2 = 999 then none else some (y2, b)) = _; rw [if_neg hne]) hM hy hS hb hl h8 rfl hc hpc kk
end RV
theorem op0_0 : rn_op 0 0 = some (.new 7, 3, 10, 0, 0) := by decide +kernel
theorem op0_3 : rn_op 0 3 = some (.dup, 1, 0, 0, 0) := by decide +kernel
theorem op0_4 : rn_op 0 4 = some (.invokespecial 9, 3, 1, 1, 0) := by decide +kernel
theorem op0_7 : rn_op 0 7 = some (.astore_n 1, 1, 0, 0, 0) := by decide +kernel
theorem op0_8 : rn_op 0 8 = some (.new 10, 3, 11, 0, 0) := by decide +kernel
theorem op0_11 : rn_op 0 11 = some (.dup, 1, 0, 0, 0) := by decide +kernel
theorem op0_12 : rn_op 0 12 = some (.invokespecial 12, 3, 145, 1, 0) := by decide +kernel
theorem op0_15 : rn_op 0 15 = some (.astore_n 2, 1, 0, 0, 0) := by decide +kernel
theorem op0_16 : rn_op 0 16 = some (.iconst 0, 1, 0, 0, 0) := by decide +kernel
theorem op0_17 : rn_op 0 17 = some (.istore_n 3, 1, 0, 0, 0) := by decide +kernel
/-- the law's beginning -/
theorem rn_begin (xs : List Int32) {r : Option Value} {τ : rn_H} (k : rn_R xs (60 + 1) 0 18 [some (.ref 10002), some (.ref 0), some (.ref 115), some (.int 0)] [] (rn_SH, rn_m00) r τ) : rn_R xs (60 + 1) 0 0 (rn_ent 4 [.ref 10002]) [] rn_s0 r τ := by
  show rn_R xs (60 + 1) 0 0 [some (.ref 10002), none, none, none] [] rn_s0 r τ
  refine rv_new (S2 := [.ref 0]) (σ2 := rn_p1) (pc2 := 3) op0_0 rfl rfl ?_
  refine rx_p (L2 := [some (.ref 10002), none, none, none]) (S2 := [.ref 0, .ref 0]) (pc2 := 4) op0_3 rfl rfl ?_
  have h1 : rn_runN 60 2000 1 0 (rn_ent 2 [.ref 0]) [] rn_p1 = some (none, rn_end rn_r1) := rn_isE_ok rn_r1_ok
  have h2 : rn_runN 60 2000 145 0 (rn_ent 2 [.ref 115]) [] rn_p2 = some (none, rn_end rn_r2) := rn_isE_ok rn_r2_ok
  refine rv_isp (p := 0) (vs := []) (T := [.ref 0]) (r2 := none) (σ2 := rn_end rn_r1) (pc2 := 7) op0_4 (by decide) ms_1 (by decide) rfl rfl (Nat.le_of_ble_eq_true rfl) (Nat.le_of_ble_eq_true rfl) ⟨2000, rn_runN_ok _ _ _ _ _ _ _ _ h1⟩ rfl ?_
  have hlen := rn_r1_len
  generalize hq : rn_end rn_r1 = q at hlen ⊢
  have hp2 : rn_p2 = rn_push (16, (rn_kinds 11).length, rn_kinds 11) q := by rw [← hq]; rfl
  show rn_R xs (60 + 1) 0 7 [some (.ref 10002), none, none, none] [.ref 0] q r τ
  refine rx_p (L2 := [some (.ref 10002), some (.ref 0), none, none]) (S2 := []) (pc2 := 8) op0_7 rfl rfl ?_
  refine rv_new (S2 := [.ref 115]) (σ2 := rn_p2) (pc2 := 11) op0_8 ?_ rfl ?_
  · unfold rn_nw
    rw [if_pos (by rw [hlen]; decide), hp2, hlen]
  refine rx_p (L2 := [some (.ref 10002), some (.ref 0), none, none]) (S2 := [.ref 115, .ref 115]) (pc2 := 12) op0_11 rfl rfl ?_
  refine rv_isp (p := 115) (vs := []) (T := [.ref 115]) (r2 := none) (σ2 := rn_end rn_r2) (pc2 := 15) op0_12 (by decide) ms_145 (by decide) rfl rfl (Nat.le_of_ble_eq_true rfl) (Nat.le_of_ble_eq_true rfl) ⟨2000, rn_runN_ok _ _ _ _ _ _ _ _ h2⟩ rfl ?_
  have he : rn_end rn_r2 = (rn_SH, rn_m00) := Prod.ext rn_r2_sh (by unfold rn_m00; with_reducible rfl)
  rw [he]
  show rn_R xs (60 + 1) 0 15 [some (.ref 10002), some (.ref 0), none, none] [.ref 115] (rn_SH, rn_m00) r τ
  refine rx_p (L2 := [some (.ref 10002), some (.ref 0), some (.ref 115), none]) (S2 := []) (pc2 := 16) op0_15 rfl rfl ?_
  refine rx_ic (v := 0) (pc2 := 17) op0_16 (by decide) rfl ?_
  refine rx_s (L2 := [some (.ref 10002), some (.ref 0), some (.ref 115), some (.int 0)]) (pc2 := 18) op0_17 rfl rfl rfl ?_
  exact k
/-- WHAT IS LEFT, pure: the law's loop, as a function, comes to its end -/
def rn_Pure : Prop := ∀ xs : List Int32, xs.length ≤ 2560 → ∃ (n : Nat) (mO : rn_Mem), lw_law_l18 xs n 0 rn_m00 = some (.inr mO)
theorem rn_owed_of (h : rn_Pure) : rn_Owed := by
  intro xs hx
  obtain ⟨n, mO, hn⟩ := h xs hx
  obtain ⟨k, hk⟩ := rn_begin xs (lw_tail_ok xs (d := 60 + 1) (by decide) hn)
  exact ⟨60 + 1, k, (rn_SH, mO), by decide, hk, by show rn_sz rn_SH ≤ _; decide +kernel⟩
