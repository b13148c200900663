/-! SEARCH: the aim of all plays (wb_: from the laws) -/
theorem wb_tb (n : Nat) : (lN n).toBitVec = BitVec.ofNat 64 n := rfl
theorem wb_inj {a b : Int64} (h : a.toBitVec = b.toBitVec) : a = b := Int64.toBitVec_inj.mp h
theorem wb_tn {n : Nat} (h : n < 2 ^ 64) : (lN n).toBitVec.toNat = n := by rw [wb_tb, BitVec.toNat_ofNat, Nat.mod_eq_of_lt h]
theorem wb_c : ∀ k, k < 64 → ((nI k).toInt64 &&& 63) = lN k := by decide +kernel
theorem wb_sm : ∀ k, k < 64 → (BitVec.ofNat 64 k).smod 64 = BitVec.ofNat 64 k := by decide +kernel
theorem wb_shl (n : Nat) {k : Nat} (hk : k < 64) : lN n <<< ((nI k).toInt64 &&& 63) = lN (n * 2 ^ k) := by
  rw [wb_c k hk]
  apply wb_inj
  rw [Int64.toBitVec_shiftLeft, wb_tb, wb_tb, wb_tb, wb_sm k hk]
  apply BitVec.eq_of_toNat_eq
  rw [BitVec.shiftLeft_eq', BitVec.toNat_shiftLeft, BitVec.toNat_ofNat, BitVec.toNat_ofNat, BitVec.toNat_ofNat, Nat.mod_eq_of_lt (show k < 2 ^ 64 by omega), Nat.shiftLeft_eq, Nat.mul_mod, Nat.mod_mod, ← Nat.mul_mod]
def pmA (S F0 : Nat → Nat) (Z : Nat → Nat → Nat → Nat) (w av : Nat → Nat) : Nat → Nat
  | 0 => 1
  | r + 1 => pmA S F0 Z w av r * kz S F0 Z 5 w av r
def rwA (S F0 : Nat → Nat) (Z : Nat → Nat → Nat → Nat) (w av : Nat → Nat) : Nat → Nat
  | 0 => kz S F0 Z 1 w av 0
  | r + 1 => rwA S F0 Z w av r * 2 ^ (4 * S 1) ||| kz S F0 Z 7 w av r
def hoA (S F0 : Nat → Nat) (Z : Nat → Nat → Nat → Nat) (w av : Nat → Nat) : Nat → Nat
  | 0 => 0
  | r + 1 => hoA S F0 Z w av r ||| kz S F0 Z 6 w av r
def leA (S F0 : Nat → Nat) (Z : Nat → Nat → Nat → Nat) (w av : Nat → Nat) : Nat → Nat
  | 0 => 0
  | r + 1 => leA S F0 Z w av r ||| 2 ^ (4 * r + kz S F0 Z 1 w av r)
def wiA (S F0 : Nat → Nat) (Y : Nat → Nat → Nat) (w : Nat → Nat) : Nat → Nat
  | 0 => 0
  | r + 1 => wiA S F0 Y w r ||| 2 ^ (4 * r + Y 0 (nnk S F0 w r))
def minL (a b : Int64) : Int64 := if 0 < lg_cmp a b then b else a
def InvA (m : rn_Mem) (v : Int64 × Int64 × Nat × Nat × Nat) : Prop := m.1 51 10 = nI 0 ∧ m.2 51 12 = v.1 ∧ m.2 51 13 = v.2.1 ∧ m.2 51 14 = lN v.2.2.1 ∧ m.1 51 15 = nI v.2.2.2.1 ∧ m.1 51 16 = nI v.2.2.2.2
def addA (S F0 : Nat → Nat) (Y : Nat → Nat → Nat) (Z : Nat → Nat → Nat → Nat) (v : Int64 × Int64 × Nat × Nat × Nat) (w av : Nat → Nat) : Int64 × Int64 × Nat × Nat × Nat := if nbG S F0 Z w av (S 2) = 0 ∧ bkG S F0 Y Z w av (S 2) = 0 then (v.1 + lN (pmA S F0 Z w av (S 2)), (if lg_cmp v.1 0 = 0 then lN (rwA S F0 Z w av (S 2)) else minL v.2.1 (lN (rwA S F0 Z w av (S 2)))), v.2.2.1 ||| hoA S F0 Z w av (S 2), v.2.2.2.1 ||| leA S F0 Z w av (S 2), v.2.2.2.2 ||| wiA S F0 Y w (S 2)) else v
theorem notePlay_l9_sp {S F0 : Nat → Nat} {Y : Nat → Nat → Nat} {Z : Nat → Nat → Nat → Nat} {w av : Nat → Nat} (wg : WG S) (hY : YZ S F0 Y Z) (hV : VL S F0 Y w av 0) {hd le wi : Nat} : ∀ (s k nf : Nat) (m : rn_Mem), k + s = S 2 → s < nf → WMs S F0 Y Z m → (∀ j, j < S 2 → m.1 67 j = nI (24 * nnk S F0 w j + av j)) → m.2 51 14 = lN (hd ||| hoA S F0 Z w av k) → m.1 51 15 = nI (le ||| leA S F0 Z w av k) → m.1 51 16 = nI (wi ||| wiA S F0 Y w k) → ∃ m2, se_notePlay_l9 nf (lN (pmA S F0 Z w av k)) (lN (rwA S F0 Z w av k)) (nI k) m = some (lN (pmA S F0 Z w av (S 2)), lN (rwA S F0 Z w av (S 2)), m2) ∧ m2.2 51 14 = lN (hd ||| hoA S F0 Z w av (S 2)) ∧ m2.1 51 15 = nI (le ||| leA S F0 Z w av (S 2)) ∧ m2.1 51 16 = nI (wi ||| wiA S F0 Y w (S 2)) ∧ (∀ p i, ¬ (p = 51 ∧ (i = 15 ∨ i = 16)) → m2.1 p i = m.1 p i) ∧ (∀ p i, ¬ (p = 51 ∧ i = 14) → m2.2 p i = m.2 p i) := by
  obtain ⟨w1, w2, w3, w4, w5, _⟩ := wg
  intro s
  induction s with
  | zero =>
    intro k nf m e hnf hW hp h1 h2 h3
    obtain ⟨nf, rfl⟩ : ∃ e, nf = e + 1 := ⟨nf - 1, by omega⟩
    obtain rfl : k = S 2 := by omega
    refine ⟨m, ?_, h1, h2, h3, fun _ _ _ => rfl, fun _ _ _ => rfl⟩
    rw [se_notePlay_l9, hW.2.1, if_neg (by rw [nI_ltI (by omega) (by omega)]; omega)]
  | succ s ih =>
    intro k nf m e hnf hW hp h1 h2 h3
    obtain ⟨nf, rfl⟩ : ∃ e, nf = e + 1 := ⟨nf - 1, by omega⟩
    have hnn := VL_nn hY hV (Nat.zero_le k) (show k < S 2 by omega)
    obtain ⟨v1, v2, v3⟩ := hV k (Nat.zero_le k) (by omega)
    obtain ⟨y0, y1, y2, y3⟩ := hY.2.2.1 _ hnn
    obtain ⟨z1, z2, z3, z4, z5, z7⟩ := y3 _ v3
    obtain ⟨m0, m1, m2y, mz⟩ := hW.2.2.2.2.2.2 _ hnn
    obtain ⟨q1, q2, q3, q4, q5, q6, q7⟩ := mz _ v3
    have hin : rn_in (nI k) 4 = true := (in_n (by omega)).mpr (by omega)
    have hdv : (m.1 67 k) / 24 = nI (nnk S F0 w k) := by
      rw [hp k (by omega), k24, pk_div (by omega) (by omega) (by omega), show (24 * nnk S F0 w k + av k) / 24 = nnk S F0 w k by omega]
    have hrm : rn_rem (m.1 67 k) 24 = nI (av k) := by
      rw [hp k (by omega), k24, rem_n (by omega) (by omega) (by omega), show (24 * nnk S F0 w k + av k) % 24 = av k by omega]
    have hin24 : rn_in (nI (av k)) 24 = true := (in_n (by omega)).mpr (by omega)
    generalize hmr : rm_i (rm_i (rm_j m 51 14 (lN (hd ||| hoA S F0 Z w av (k + 1)))) 51 15 (nI (le ||| leA S F0 Z w av (k + 1)))) 51 16 (nI (wi ||| wiA S F0 Y w (k + 1))) = mr
    have f1 : ∀ p i, ¬ (p = 51 ∧ (i = 15 ∨ i = 16)) → mr.1 p i = m.1 p i := by
      intro p i hpi
      rw [← hmr, mi_get, if_neg (by omega), mi_get, if_neg (by omega), mj_1]
    have f2 : ∀ p i, ¬ (p = 51 ∧ i = 14) → mr.2 p i = m.2 p i := by
      intro p i hpi
      rw [← hmr, mi_2, mi_2, mj_get, if_neg hpi]
    have Kmr : Kl m mr := ⟨fun p i hpi => f1 p i (fun z => hpi (by unfold Pla; omega)), fun p hp => by funext i; exact f2 p i (fun z => hp z.1)⟩
    obtain ⟨m2, r1, r2, r3, r4, r5, r6⟩ := ih (k + 1) nf mr (by omega) (by omega) (hW.kl Kmr) (fun j hj => by rw [f1 67 j (by omega)]; exact hp j hj) (by rw [← hmr, mi_2, mi_2, mj_get, if_pos ⟨rfl, rfl⟩]) (by rw [← hmr, mi_get, if_neg (by omega), mi_get, if_pos ⟨rfl, rfl⟩]) (by rw [← hmr, mi_get, if_pos ⟨rfl, rfl⟩])
    refine ⟨m2, ?_, r2, r3, r4, fun p i hpi => by rw [r5 p i hpi, f1 p i hpi], fun p i hpi => by rw [r6 p i hpi, f2 p i hpi]⟩
    have c1 : ∀ X U, (rm_i (rm_j m 51 14 X) 51 15 U).1 51 16 = nI (wi ||| wiA S F0 Y w k) := fun X U => by rw [mi_get, if_neg (by omega), mj_1]; exact h3
    have c2 : ∀ X U, (rm_i (rm_j m 51 14 X) 51 15 U).1 (70 + 8 * nnk S F0 w k) 0 = nI (Y 0 (nnk S F0 w k)) := fun X U => by rw [mi_get, if_neg (by omega), mj_1]; exact m0
    have d1 : (hd ||| hoA S F0 Z w av k) ||| Z 6 (nnk S F0 w k) (av k) = hd ||| hoA S F0 Z w av (k + 1) := by rw [Nat.or_assoc]; rfl
    have d2 : (le ||| leA S F0 Z w av k) ||| 2 ^ (4 * k + Z 1 (nnk S F0 w k) (av k)) = le ||| leA S F0 Z w av (k + 1) := by rw [Nat.or_assoc]; rfl
    have d3 : (wi ||| wiA S F0 Y w k) ||| 2 ^ (4 * k + Y 0 (nnk S F0 w k)) = wi ||| wiA S F0 Y w (k + 1) := by rw [Nat.or_assoc]; rfl
    rw [se_notePlay_l9, hW.2.1, if_pos (by rw [nI_ltI (by omega) (by omega)]; omega), if_pos hin, nI_n (by omega), hdv, if_pos ((in_n (by omega)).mpr (by omega)), if_pos hin, hrm]
    simp only [Option.bind_some, if_pos hin24, nI_n (show nnk S F0 w k < 2 ^ 31 by omega), nI_n (show av k < 2 ^ 31 by omega), mj_1, c1, c2, h1, h2, q1, q5, q6, q7, hW.1, m4k, nI_add, nI_l (show Z 5 (nnk S F0 w k) (av k) < 2 ^ 31 by omega), nI_l (show Z 7 (nnk S F0 w k) (av k) < 2 ^ 31 by omega), lN_mul, wb_shl _ (show 4 * S 1 < 64 by omega), fb_orL, shl_1 (show 4 * k + Z 1 (nnk S F0 w k) (av k) < 32 by omega), shl_1 (show 4 * k + Y 0 (nnk S F0 w k) < 32 by omega), fa_or, d1, d2, d3, hmr, nI_1]
    exact r1
theorem lc_0 {x : Int64} : lg_cmp x 0 = 0 ↔ x = 0 := by
  unfold lg_cmp
  constructor
  · intro h
    split at h
    · exact absurd h (by decide)
    · split at h
      · assumption
      · exact absurd h (by decide)
  · rintro rfl
    decide
theorem AI_A {S F0 : Nat → Nat} {Y : Nat → Nat → Nat} {Z : Nat → Nat → Nat → Nat} (wg : WG S) (wc : WC S) (hY : YZ S F0 Y Z) : AI S F0 Y Z 0 InvA (addA S F0 Y Z) := by
  have prom : ∀ (nf r : Nat) (w av : Nat → Nat) (v : Int64 × Int64 × Nat × Nat × Nat) (m : rn_Mem) (a1 a2 : Int32), bkG S F0 Y Z w av r < 64 → InvA m v → se_promises nf a1 a2 (nI (bkG S F0 Y Z w av r)) m = some (if bkG S F0 Y Z w av r = 0 then 1 else 0, m) := by
    intro nf r w av v m a1 a2 hb hI
    unfold se_promises
    rw [hI.1, if_neg (show ¬ nI 0 = 1 by decide)]
    by_cases z : bkG S F0 Y Z w av r = 0
    · rw [if_pos (by rw [z]; rfl), if_pos (show nI 0 = 0 from rfl), if_pos z]
    · rw [if_neg (nI_ne0 (by omega) (by omega)), if_neg z]
  refine ⟨by omega, fun m m' v h e1 e2 e3 => ?_, fun m v h => h.1, fun nf r w av v m hnf h1 h2 hI hW hV => ?_, fun _ r w av v m hr hI hwr => ?_, fun nf w av v m hnf hI hW hV hp hw hpr => ?_⟩
  · obtain ⟨a1, a2, a3, a4, a5, a6⟩ := h
    exact ⟨by rw [e1 10 (by omega)]; exact a1, by rw [e3]; exact a2, by rw [e3]; exact a3, by rw [e3]; exact a4, by rw [e1 15 (by omega)]; exact a5, by rw [e1 16 (by omega)]; exact a6⟩
  · have hb := (VL_b hY h2 hV).2.2.2.2 wc.1
    refine ⟨decide (bkG S F0 Y Z w av r = 0), ?_, fun hf w' av' y1 y2 => ?_⟩
    · rw [prom nf r w av v m _ _ hb hI]
      by_cases z : bkG S F0 Y Z w av r = 0
      · rw [if_pos z, decide_eq_true z]; rfl
      · rw [if_neg z, decide_eq_false z]; rfl
    · have hf := of_decide_eq_false hf
      unfold addA
      rw [if_neg]
      rintro ⟨_, q⟩
      have e : bkG S F0 Y Z w' av' r = bkG S F0 Y Z w av r := bkG_c h2 y1 y2
      have hle : bkG S F0 Y Z w' av' r ≤ bkG S F0 Y Z w' av' (S 2) := or_le fun x hx => by
        have := bkG_m (d := S 2 - r) hx
        rw [show r + (S 2 - r) = S 2 by omega] at this
        exact this
      omega
  · unfold addA
    rw [if_neg (fun z => nbG_wr hr hwr z.1)]
  · obtain ⟨m', hI', hW', hpm⟩ := hpr
    have hb := (VL_b hY (r := S 2) (Nat.le_refl _) (by rw [Nat.sub_self]; exact hV)).2.2.2.2 wc.1
    rw [prom nf (S 2) w av v m' _ _ hb hI'] at hpm
    have hz : bkG S F0 Y Z w av (S 2) = 0 := by
      by_cases z : bkG S F0 Y Z w av (S 2) = 0
      · exact z
      · rw [if_neg z] at hpm
        injection hpm with hpm
        injection hpm with hpm
        exact absurd hpm (by decide)
    obtain ⟨a1, a2, a3, a4, a5, a6⟩ := hI
    have w1 : 2 ≤ S 1 := wg.1
    have w2 : S 1 ≤ 4 := wg.2.1
    have w3 : 1 ≤ S 2 := wg.2.2.1
    have w4 : S 2 ≤ 4 := wg.2.2.2.1
    obtain ⟨mq, p1, p2, p3, p4, p5, p6⟩ := notePlay_l9_sp (hd := v.2.2.1) (le := v.2.2.2.1) (wi := v.2.2.2.2) wg hY hV (S 2) 0 nf m (by omega) (by omega) hW hp (by rw [hoA, Nat.or_zero]; exact a4) (by rw [leA, Nat.or_zero]; exact a5) (by rw [wiA, Nat.or_zero]; exact a6)
    have hk1 : kz S F0 Z 1 w av 0 < 2 ^ 31 := by
      have hnn := VL_nn hY hV (Nat.le_refl 0) (show 0 < S 2 by omega)
      have := ((hY.2.2.1 _ hnn).2.2.2 _ (hV 0 (Nat.le_refl 0) (by omega)).2.2).1
      unfold kz
      omega
    have e12 : mq.2 51 12 = v.1 := by rw [p6 51 12 (by omega)]; exact a2
    have e13 : mq.2 51 13 = v.2.1 := by rw [p6 51 13 (by omega)]; exact a3
    refine ⟨rm_j (rm_j mq 51 13 (if lg_cmp v.1 0 = 0 then lN (rwA S F0 Z w av (S 2)) else minL v.2.1 (lN (rwA S F0 Z w av (S 2))))) 51 12 (v.1 + lN (pmA S F0 Z w av (S 2))), ?_, ?_, ⟨fun p i hpi => ?_, fun p hpi => ?_⟩⟩
    · rw [if_pos rfl]
      unfold se_notePlay
      simp only [Option.bind_some]
      rw [nI_l hk1, show se_notePlay_l9 nf 1 (lN (kz S F0 Z 1 w av 0)) 0 m = some (lN (pmA S F0 Z w av (S 2)), lN (rwA S F0 Z w av (S 2)), mq) from p1]
      simp only [Option.bind_some]
      rw [e12, e13]
      by_cases z : lg_cmp v.1 0 = 0
      · rw [if_pos z, if_pos z]
        simp only [Option.bind_some]
        rw [show (rm_j mq 51 13 (lN (rwA S F0 Z w av (S 2)))).2 51 12 = v.1 by rw [mj_get, if_neg (by omega)]; exact e12]
      · rw [if_neg z, if_neg z]
        unfold ja_minL minL
        by_cases y : 0 < lg_cmp v.2.1 (lN (rwA S F0 Z w av (S 2)))
        · rw [if_pos y, if_pos y]
          simp only [Option.bind_some]
          rw [show (rm_j mq 51 13 (lN (rwA S F0 Z w av (S 2)))).2 51 12 = v.1 by rw [mj_get, if_neg (by omega)]; exact e12]
        · rw [if_neg y, if_neg y]
          simp only [Option.bind_some]
          rw [show (rm_j mq 51 13 v.2.1).2 51 12 = v.1 by rw [mj_get, if_neg (by omega)]; exact e12]
    · have hadd : addA S F0 Y Z v w av = (v.1 + lN (pmA S F0 Z w av (S 2)), (if lg_cmp v.1 0 = 0 then lN (rwA S F0 Z w av (S 2)) else minL v.2.1 (lN (rwA S F0 Z w av (S 2)))), v.2.2.1 ||| hoA S F0 Z w av (S 2), v.2.2.2.1 ||| leA S F0 Z w av (S 2), v.2.2.2.2 ||| wiA S F0 Y w (S 2)) := if_pos ⟨nbG_0 (hw (by decide)), hz⟩
      rw [hadd]
      refine ⟨?_, ?_, ?_, ?_, ?_, ?_⟩
      · rw [mj_1, mj_1, p5 51 10 (by omega)]; exact a1
      · rw [mj_get, if_pos ⟨rfl, rfl⟩]
      · rw [mj_get, if_neg (by omega), mj_get, if_pos ⟨rfl, rfl⟩]
      · rw [mj_get, if_neg (by omega), mj_get, if_neg (by omega)]; exact p2
      · rw [mj_1, mj_1]; exact p3
      · rw [mj_1, mj_1]; exact p4
    · rw [mj_1, mj_1, p5 p i (fun z => hpi (by unfold Pre; omega))]
    · funext i
      rw [mj_get, if_neg (fun z => hpi z.1), mj_get, if_neg (fun z => hpi z.1), p6 p i (fun z => hpi z.1)]
