/-! THE REFERENCE'S SEARCH: a trick laid, card by card -/
theorem fac_24 {n : Nat} (h : n ≤ 4) : fac n ≤ 24 := by
  have e : n = 0 ∨ n = 1 ∨ n = 2 ∨ n = 3 ∨ n = 4 := by omega
  rcases e with rfl | rfl | rfl | rfl | rfl <;> decide
theorem noS_fac {S : Nat → Nat} (h1 : 2 ≤ S 1) (h2 : S 1 ≤ 4) : noS S ≤ fac (S 1) := by
  have e1 : S 1 = 2 ∨ S 1 = 3 ∨ S 1 = 4 := by omega
  unfold noS
  split
  · exact Nat.le_refl _
  · rcases e1 with e | e | e <;> rw [e] <;> decide
def puB (S : Nat → Nat) (U L : Nat) (f : Nat → Nat) (pc : Nat) : Nat → Bool
  | 0 => true
  | j + 1 => puB S U L f pc j && !(brc S U L f j && decide ((L + j) % S 1 = pc))
theorem lt_l53 {S f g : Nat → Nat} {k q L U pc : Nat} (wg : WG S) (hk : k < S 2) (hq : q < fac (S 1)) (hL : L < S 1) (hfg : ∀ j, j < S 1 → f j = g (od (S 1) q j)) (hf : ∀ j, j < S 1 → f j < 16) (hfi : ∀ i j, i < S 1 → j < S 1 → f i = f j → i = j) : ∀ (r j nf : Nat) (m : rn_Mem), j + r = S 1 → r + 60 < nf → m.1 115 8 = zT (S 4) → m.1 115 9 = nI (S 5) → (∀ c, c < 4 → (nI c = m.1 115 12 ↔ c = pc)) → m.1 129 k = nI L → (∀ t, t < S 1 → m.1 130 (4 * k + t) = nI (g t)) → (∀ c, c < S 1 → m.1 134 (4 * (k + 1) + c) = nI (nb4 U c)) → (∀ i, i < j → m.1 134 (4 * k + (L + i) % S 1) = nI (nb4 U ((L + i) % S 1) ||| 2 ^ (f i / 4)) ∧ m.1 136 (f i) = nI ((L + i) % S 1)) → ∃ m2, mo_layTrick_l53 (nI k) (nI (S 1)) (nI q) (nI (f 0 / 4)) nf (nI (fb_ct (brc S U L f) j)) (if puB S U L f pc j = true then 1 else 0) (nI j) m = some (nI (fb_ct (brc S U L f) (S 1)), (if puB S U L f pc (S 1) = true then 1 else 0), m2) ∧ (∀ i, i < S 1 → m2.1 134 (4 * k + (L + i) % S 1) = nI (nb4 U ((L + i) % S 1) ||| 2 ^ (f i / 4)) ∧ m2.1 136 (f i) = nI ((L + i) % S 1)) ∧ (∀ x, x < 4 * k ∨ 4 * k + 4 ≤ x → m2.1 134 x = m.1 134 x) ∧ (∀ x, (∀ i, i < S 1 → f i ≠ x) → m2.1 136 x = m.1 136 x) ∧ m2.2 = m.2 ∧ ∀ p, p ≠ 134 → p ≠ 136 → m2.1 p = m.1 p := by
  have w1 : 2 ≤ S 1 := wg.1
  have w2 : S 1 ≤ 4 := wg.2.1
  have w4 : S 2 ≤ 4 := wg.2.2.2.1
  have w5 : S 5 ≤ 2 := wg.2.2.2.2.2.2.2.1
  have w44 : S 4 ≤ 4 := wg.2.2.2.2.2.2.1
  intro r
  induction r with
  | zero =>
    intro j nf m e hnf h8 h9 h12 h129 h130 h134 h
    obtain ⟨nf, rfl⟩ : ∃ e, nf = e + 1 := ⟨nf - 1, by omega⟩
    obtain rfl : j = S 1 := by omega
    refine ⟨m, ?_, h, fun _ _ => rfl, fun _ _ => rfl, rfl, fun _ _ _ => rfl⟩
    rw [mo_layTrick_l53, if_neg (by rw [nI_ltI (by omega) (by omega)]; omega)]
  | succ r ih =>
    intro j nf m e hnf h8 h9 h12 h129 h130 h134 h
    obtain ⟨nf, rfl⟩ : ∃ e, nf = e + 1 := ⟨nf - 1, by omega⟩
    have hj : j < S 1 := by omega
    have hc : (L + j) % S 1 < S 1 := Nat.mod_lt _ (by omega)
    generalize ec : (L + j) % S 1 = c at hc
    have hfj := hf j hj
    have hf0 := hf 0 (by omega)
    have ho := od_lt (S 1) (by omega) w1 q (by exact Nat.lt_of_lt_of_le hq (fac_24 w2)) hq j hj
    have hN : nb4 U c < 16 := nb4_lt
    generalize eN : nb4 U c = N at hN
    have hb1 := brc_iff (S := S) (U := U) (L := L) (j := j) hf0
    rw [ec, eN] at hb1
    have hct : fb_ct (brc S U L f) j ≤ j := fb_ct_le _ _
    have x27 : (if ((nI N >>> (nI (f 0 / 4) &&& 31)) &&& 1) = 1 then some (1 : Int32) else some 0) = some (if N.testBit (f 0 / 4) = true then 1 else 0) := by
      by_cases y : N.testBit (f 0 / 4) = true
      · rw [if_pos ((bit_1 (by omega) (by omega)).mpr y), if_pos y]
      · rw [if_neg (fun t => y ((bit_1 (by omega) (by omega)).mp t)), if_neg y]
    have hsu : ∀ m : rn_Mem, mo_suitOf nf (nI (f j)) m = some (nI (f j / 4), m) := fun m => by
      rw [mo_suitOf, k4, pk_div (by omega) (by omega) (by omega)]
    have x51 : ((if (m.1 115 9) = 2 then if (m.1 115 8) < 0 then some ((0 : Int32), m) else if (if N.testBit (f 0 / 4) = true then (1 : Int32) else 0) = 0 then (mo_suitOf nf (nI (f j)) m).bind fun (r32, m31) => if r32 = (m31.1 115 8) then some ((0 : Int32), m31) else if ((nI N >>> ((m31.1 115 8) &&& 31)) &&& 1) = 1 then some ((1 : Int32), m31) else some ((0 : Int32), m31) else some ((0 : Int32), m) else some ((0 : Int32), m)) : Option (Int32 × rn_Mem)) = some (if (S 5 = 2 ∧ S 4 < 4 ∧ ¬ N.testBit (f 0 / 4) = true ∧ f j / 4 ≠ S 4 ∧ N.testBit (S 4) = true) then 1 else 0, m) := by
      rw [h9, h8]
      by_cases y1 : S 5 = 2
      case neg => rw [if_neg (by rw [k2, nI_eq (by omega) (by omega)]; exact y1), if_neg (fun t => y1 t.1)]
      rw [if_pos (by rw [y1]; rfl)]
      by_cases y2 : S 4 < 4
      case neg => rw [if_pos (zT_lt.mpr (by omega)), if_neg (fun t => y2 t.2.1)]
      rw [if_neg (fun t => absurd (zT_lt.mp t) (by omega))]
      by_cases y3 : N.testBit (f 0 / 4) = true
      · rw [if_pos y3, if_neg (by decide), if_neg (fun t => t.2.2.1 y3)]
      rw [if_neg y3, if_pos rfl, hsu m, Option.bind_some]
      try simp only []
      rw [h8, zT_n y2]
      by_cases y4 : f j / 4 = S 4
      · rw [if_pos (by rw [y4]), if_neg (fun t => t.2.2.2.1 y4)]
      rw [if_neg (by rw [nI_eq (by omega) (by omega)]; exact y4)]
      by_cases y5 : N.testBit (S 4) = true
      · rw [if_pos ((bit_1 (by omega) (by omega)).mpr y5), if_pos ⟨y1, y2, y3, y4, y5⟩]
      · rw [if_neg (fun t => y5 ((bit_1 (by omega) (by omega)).mp t)), if_neg (fun t => y5 t.2.2.2.2)]
    have x52 : ((if 0 < nI j then if (m.1 115 9) = 1 then some ((0 : Int32), m) else (mo_suitOf nf (nI (f j)) m).bind fun (r43, m42) => if r43 = nI (f 0 / 4) then some ((0 : Int32), m42) else if (if N.testBit (f 0 / 4) = true then (1 : Int32) else 0) = 0 then if (if (S 5 = 2 ∧ S 4 < 4 ∧ ¬ N.testBit (f 0 / 4) = true ∧ f j / 4 ≠ S 4 ∧ N.testBit (S 4) = true) then (1 : Int32) else 0) = 0 then some ((0 : Int32), m42) else some ((1 : Int32), m42) else some ((1 : Int32), m42) else some ((0 : Int32), m)) : Option (Int32 × rn_Mem)) = some (if brc S U L f j = true then 1 else 0, m) := by
      rw [h9]
      by_cases y0 : 0 < j
      case neg =>
        obtain rfl : j = 0 := by omega
        rw [if_neg (by decide), if_neg (fun t => (hb1.mp t).2.1 rfl)]
      rw [if_pos (by rw [k0, nI_ltI (by omega) (by omega)]; exact y0)]
      by_cases y1 : S 5 = 1
      · rw [if_pos (by rw [y1]; rfl), if_neg (fun t => (hb1.mp t).1 y1)]
      rw [if_neg (by rw [k1, nI_eq (by omega) (by omega)]; exact y1), hsu m, Option.bind_some]
      try simp only []
      by_cases y2 : f j / 4 = f 0 / 4
      · rw [if_pos (by rw [y2]), if_neg (fun t => (hb1.mp t).2.1 y2)]
      rw [if_neg (by rw [nI_eq (by omega) (by omega)]; exact y2)]
      by_cases y3 : N.testBit (f 0 / 4) = true
      · rw [if_pos y3, if_neg (by decide), if_pos (hb1.mpr ⟨y1, y2, Or.inl y3⟩)]
      rw [if_neg y3, if_pos rfl]
      by_cases y4 : S 5 = 2 ∧ S 4 < 4 ∧ ¬ N.testBit (f 0 / 4) = true ∧ f j / 4 ≠ S 4 ∧ N.testBit (S 4) = true
      · rw [if_pos y4, if_neg (by decide), if_pos (hb1.mpr ⟨y1, y2, Or.inr ⟨y4.1, y4.2.1, y4.2.2.2⟩⟩)]
      · rw [if_neg y4, if_pos rfl, if_neg (fun t => (hb1.mp t).2.2.elim y3 fun u => y4 ⟨u.1, u.2.1, y3, u.2.2⟩)]
    have x58 : (if (if brc S U L f j = true then (1 : Int32) else 0) = 0 then some (0 : Int32) else some 1) = some (nI (if brc S U L f j = true then 1 else 0)) := by
      by_cases y : brc S U L f j = true
      · rw [if_pos y, if_pos y, if_neg (by decide)]; rfl
      · rw [if_neg y, if_neg y, if_pos rfl]; rfl
    have x67 : (if (if puB S U L f pc j = true then (1 : Int32) else 0) = 0 then some (0 : Int32) else if (if brc S U L f j = true then (1 : Int32) else 0) = 0 then some 1 else if nI c = (m.1 115 12) then some 0 else some 1) = some (if puB S U L f pc (j + 1) = true then 1 else 0) := by
      rw [puB, ec]
      cases y1 : puB S U L f pc j with
      | false => rfl
      | true =>
        rw [if_neg (by decide)]
        cases y2 : brc S U L f j with
        | false => rfl
        | true =>
          rw [if_neg (by decide)]
          by_cases y3 : c = pc
          · rw [if_pos ((h12 c (by omega)).mpr y3), decide_eq_true y3]; rfl
          · rw [if_neg (fun t => y3 ((h12 c (by omega)).mp t)), decide_eq_false y3]; rfl
    have hsh : nI N ||| ((1 : Int32) <<< (nI (f j / 4) &&& 31)) = nI (N ||| 2 ^ (f j / 4)) := by rw [shl_1 (by omega), fa_or]
    generalize hmr : rm_i (rm_i m 134 (4 * k + c) (nI (N ||| 2 ^ (f j / 4)))) 136 (f j) (nI c) = mr
    have f1 : ∀ p, p ≠ 134 → p ≠ 136 → mr.1 p = m.1 p := fun p h1 h2 => by rw [← hmr]; funext x; rw [mi_get, if_neg (fun t => h2 t.1), mi_get, if_neg (fun t => h1 t.1)]
    have f2 : ∀ x, mr.1 134 x = if x = 4 * k + c then nI (N ||| 2 ^ (f j / 4)) else m.1 134 x := fun x => by
      rw [← hmr, mi_get, if_neg (by omega), mi_get]
      by_cases y : x = 4 * k + c
      · rw [if_pos ⟨rfl, y⟩, if_pos y]
      · rw [if_neg (fun t => y t.2), if_neg y]
    have f3 : ∀ x, mr.1 136 x = if x = f j then nI c else m.1 136 x := fun x => by
      rw [← hmr, mi_get]
      by_cases y : x = f j
      · rw [if_pos ⟨rfl, y⟩, if_pos y]
      · rw [if_neg (fun t => y t.2), if_neg y, mi_get, if_neg (by omega)]
    obtain ⟨m2, p1, p2, p3, p4, p5, p6⟩ := ih (j + 1) nf mr (by omega) (by omega) (by rw [f1 115 (by omega) (by omega)]; exact h8) (by rw [f1 115 (by omega) (by omega)]; exact h9) (by rw [f1 115 (by omega) (by omega)]; exact h12) (by rw [f1 129 (by omega) (by omega)]; exact h129) (by rw [f1 130 (by omega) (by omega)]; exact h130) (fun d hd => by rw [f2, if_neg (by omega)]; exact h134 d hd) (fun i hi => by
      rw [f2, f3]
      by_cases y : i = j
      · rw [y, ec, eN, if_pos rfl, if_pos rfl]
        exact ⟨rfl, rfl⟩
      · rw [if_neg (fun t => y (ch_ne w1 w2 hL (show i < S 1 by omega) hj (by omega))), if_neg (fun t => y (hfi i j (by omega) hj t))]
        exact h i (by omega))
    refine ⟨m2, ?_, p2, fun x hx => ?_, fun x hx => ?_, ?_, fun p h1 h2 => ?_⟩
    · rw [mo_layTrick_l53, if_pos (by rw [nI_ltI (by omega) (by omega)]; exact hj), ordered_sp (by omega) (by omega) w2 hq hj, Option.bind_some]
      try simp only []
      rw [m4k, nI_add, if_pos ((in_n (by omega)).mpr (by omega)), nI_n (by omega), h130 _ ho, ← hfg j hj, Option.bind_some, if_pos ((in_n (by omega)).mpr (by omega)), if_pos (nI_ne0 (by omega) (by omega)), nI_n (show k < 2 ^ 31 by omega), h129, nI_add, rem_n (by omega) (by omega) (by omega), ec, Option.bind_some, nI_1, m4k, nI_add, if_pos ((in_n (by omega)).mpr (by omega)), nI_n (show 4 * (k + 1) + c < 2 ^ 31 by omega), h134 c hc, eN, Option.bind_some]
      rw [x27, Option.bind_some]
      try simp only []
      rw [x51, Option.bind_some]
      try simp only []
      rw [x52, Option.bind_some]
      try simp only []
      rw [x58, Option.bind_some, nI_add, Option.bind_some, x67, Option.bind_some, hsu m, Option.bind_some]
      try simp only []
      rw [nI_add, if_pos ((in_n (by omega)).mpr (by omega)), nI_n (show 4 * k + c < 2 ^ 31 by omega), hsh, Option.bind_some, if_pos ((in_n (by omega)).mpr (by omega)), nI_n (show f j < 2 ^ 31 by omega), hmr, Option.bind_some, nI_1, Option.bind_some]
      exact p1
    · rw [p3 x hx, f2, if_neg (by omega)]
    · rw [p4 x hx, f3, if_neg (fun t => hx j hj t.symm)]
    · rw [p5, ← hmr]; rfl
    · rw [p6 p h1 h2, f1 p h1 h2]
