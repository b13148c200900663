/-! TABLE: a heap read by both -/
def MU (A : Nat → Nat) (c : Nat) (m : rn_Mem) : Prop := (∀ d, d ≤ c → m.1 118 d = nI (A (12 + d))) ∧ ∀ d i, d ≤ c → i < A (12 + d) → m.1 118 (4 + 12 * d + i) = zC (A (16 + 12 * d + i))
def Pmt (p i : Nat) : Prop := p = 118 ∨ (p = 115 ∧ i = 3)
def GC (S : Nat → Nat) (m : rn_Mem) : Prop := m.1 4 1 = nI (S 1) ∧ m.1 4 2 = nI (S 2) ∧ m.1 4 3 = nI (S 3)
def GZ (S : Nat → Nat) (m : rn_Mem) : Prop := m.1 116 1 = nI (S 1) ∧ m.1 116 2 = nI (S 2) ∧ m.1 116 3 = nI (S 3)
theorem obit {P M x : Nat} (hx : x < 16) : (((nI P ^^^ (-1)) ||| nI M) >>> (nI x &&& 31)) &&& 1 = nI (!P.testBit x || M.testBit x).toNat := by
  apply nI_ext
  intro i hi
  rw [b_and, b_sshr x (by omega) _ hi]
  by_cases q : i = 0
  · subst q
    rw [if_pos (by omega), b_or, b_xor, b_m1 _ (by omega), bt_n (by omega), bt_n (by omega), Nat.add_zero]
    cases P.testBit x <;> cases M.testBit x <;> rfl
  · have : bt (1 : Int32) i = false := by
      rw [show (1 : Int32) = nI 1 from rfl, bt_n hi]
      exact Nat.testBit_lt_two_pow (Nat.one_lt_two_pow q)
    rw [this, Bool.and_false]
    cases (!P.testBit x || M.testBit x)
    · exact (Nat.zero_testBit i).symm
    · exact (Nat.testBit_lt_two_pow (Nat.one_lt_two_pow q)).symm
theorem bd_bd {P M v : Nat} : bd (bd P M) (2 ^ v) = bd P (M ||| 2 ^ v) := by
  apply Nat.eq_of_testBit_eq
  intro i
  rw [bd_bit, bd_bit, bd_bit, Nat.testBit_or]
  cases P.testBit i <;> cases M.testBit i <;> cases (2 ^ v).testBit i <;> rfl
theorem CT_k {S A : Nat → Nat} {all u M : Nat} {m m2 : rn_Mem} (h : CT S A all u M m) (h1 : m2.1 37 = m.1 37) (h2 : m2.1 38 = m.1 38) (h3 : m2.1 39 = m.1 39) (h4 : m2.1 40 = m.1 40) : CT S A all u M m2 := by
  unfold CT at *
  rw [h1, h2, h3, h4]
  exact h
theorem CT_a {S A : Nat → Nat} {all u M : Nat} {m : rn_Mem} (h : CT S A all u M m) (x : Int32) : CT S A all u M (rm_i m 1 2 x) := by
  refine CT_k h ?_ ?_ ?_ ?_
  all_goals
    funext j
    rw [mi_get, if_neg (by omega)]
theorem MU_a {A : Nat → Nat} {c : Nat} {m : rn_Mem} (h : MU A c m) (x : Int32) : MU A c (rm_i m 115 3 x) := by
  refine ⟨fun d hd => ?_, fun d i hd hi => ?_⟩
  · rw [mi_get, if_neg (by omega)]; exact h.1 d hd
  · rw [mi_get, if_neg (by omega)]; exact h.2 d i hd hi
theorem TC_P {B : Nat → Nat} {K : Nat} {m m1 : rn_Mem} (h : TC B K m) (hk : Kq Pct m m1) : TC B K m1 := by
  refine ⟨?_, fun i hi => ?_⟩
  · rw [hk.1 1 1 (by unfold Pct; omega)]; exact h.1
  · rw [hk.1 2 i (by unfold Pct; omega)]; exact h.2 i hi
theorem TM_P {B : Nat → Nat} {K : Nat} {m m1 : rn_Mem} (h : TM B K m) (hk : Kq Pmt m m1) : TM B K m1 := by
  refine ⟨?_, fun i hi => ?_⟩
  · rw [hk.1 115 2 (by unfold Pmt; omega)]; exact h.1
  · rw [hk.1 117 i (by unfold Pmt; omega)]; exact h.2 i hi
theorem GC_P {S : Nat → Nat} {m m1 : rn_Mem} (h : GC S m) (hk : Kq Pct m m1) : GC S m1 := by
  unfold GC at *
  rw [hk.1 4 1 (by unfold Pct; omega), hk.1 4 2 (by unfold Pct; omega), hk.1 4 3 (by unfold Pct; omega)]
  exact h
theorem GZ_P {S : Nat → Nat} {m m1 : rn_Mem} (h : GZ S m) (hk : Kq Pmt m m1) : GZ S m1 := by
  unfold GZ at *
  rw [hk.1 116 1 (by unfold Pmt; omega), hk.1 116 2 (by unfold Pmt; omega), hk.1 116 3 (by unfold Pmt; omega)]
  exact h
def HO (B : Nat → Nat) (K o e : Nat) : Prop := o = 0 ∨ (o = 1 ∧ nx B K e = e ∧ (bx B K e < 0 ∨ bx B K e = 59)) ∨ (o = 2 ∧ nx B K e = e ∧ ¬ bx B K e < 0 ∧ ¬ bx B K e = 59)
/-- both sides of a heap from a state on -/
def HR (B S : Nat → Nat) (K c r a all u M : Nat) (A : Nat → Nat) (o e all' u' M' : Nat) (A' : Nat → Nat) : Prop := (∀ nf m, r + 201 < nf → TC B K m → m.1 1 2 = nI a → GC S m → CT S A all u M m → ∃ m2, tp_readHeap_l3 37 4 (nI c) nf (nI (A (12 + c))) m = some (if o = 0 then .inl (0, m2) else .inr m2) ∧ m2.1 1 2 = nI e ∧ (o ≠ 0 → CT S A' all' u' M' m2) ∧ Kq Pct m m2) ∧ (∀ nf m, r + 201 < nf → TM B K m → m.1 115 3 = nI (nx B K a) → GZ S m → MU A c m → ∃ m2, mo_readTable_l44 (nI c) nf (nI (bd (S 3) M)) (nI all) (nI u) (bx B K a) m = some (if o = 1 then .inr (nI (bd (S 3) M'), nI all', nI u', bx B K e, m2) else .inl (0, m2)) ∧ m2.1 115 3 = nI e ∧ (o = 1 → MU A' c m2) ∧ Kq Pmt m m2)
set_option maxHeartbeats 4000000 in
theorem T_heap {B S : Nat → Nat} {K c : Nat} (hB : TB B K) (wg : WG S) (hc : c < S 1) : ∀ (r a all u M : Nat) (A : Nat → Nat), all + r = S 1 * S 2 → IV S A all u M → a ≤ K → ∃ (o e all' u' M' : Nat) (A' : Nat → Nat), e ≤ K ∧ IV S A' all' u' M' ∧ all' ≤ S 1 * S 2 ∧ (∀ d, d < 4 → d ≠ c → A' (12 + d) = A (12 + d)) ∧ HO B K o e ∧ HR B S K c r a all u M A o e all' u' M' A' := by
  obtain ⟨w1, w2, w3, w4, w5, w6, w7, w8, w9, w10, w11, w12⟩ := wg
  intro r
  induction r using Nat.strongRecOn with
  | ind r ih =>
  intro a all u M A hr hI ha
  have hnl := nx_le (B := B) ha
  have hnn := nx_nx (B := B) ha
  have hbn := bx_nx (B := B) ha
  have hsz : ∀ d, d < S 1 → A (12 + d) ≤ all := fun d hd => IV_sz hI hd
  have hsc := hsz c hc
  have hM := hI.2.2.2.2.2.1
  have hu := hI.2.2.2.2.1
  -- the head of the class's loop
  have hC0 : ∀ nf m, 200 < nf → TC B K m → m.1 1 2 = nI a → tp_readHeap_l3 37 4 (nI c) (nf + 1) (nI (A (12 + c))) m = (if bx B K a = 63 then (if (m.1 37 4) < (m.1 4 1) * (m.1 4 2) then (if (m.1 37 6) < 3 then (ta_lay nf 37 (nI c) (-4) (m.1 4 1) (rm_i m 1 2 (nI (nx B K a + 1)))).bind fun m26 => tp_readHeap_l3 37 4 (nI c) nf (nI (A (12 + c) + 1)) m26 else some (.inl (0, rm_i m 1 2 (nI (nx B K a))))) else some (.inl (0, rm_i m 1 2 (nI (nx B K a))))) else if dI (suo (bx B K a)) < 0 then some (.inr (rm_i m 1 2 (nI (nx B K a)))) else (if (m.1 37 4) < (m.1 4 1) * (m.1 4 2) then (tp_card nf (((m.1 4 3) ^^^ (-1)) ||| (m.1 37 5)) (rm_i m 1 2 (nI (nx B K a)))).bind fun (r60, m59) => if r60 < 0 then some (.inl (0, m59)) else (ta_lay nf 37 (nI c) r60 (m59.1 4 1) m59).bind fun m63 => tp_readHeap_l3 37 4 (nI c) nf (nI (A (12 + c) + 1)) m63 else some (.inl (0, rm_i m 1 2 (nI (nx B K a)))))) := by
    intro nf m hnf hT h
    have p1 := c_peek hB ha (show 100 < nf by omega) hT h
    have hT1 : TC B K (rm_i m 1 2 (nI (nx B K a))) := TC_k hT (by omega) (by omega)
    have p2 := c_peek hB hnl.2 (show 100 < nf by omega) hT1 g12
    rw [hnn, hbn, mi_mi] at p2
    have p3 := c_suit hB hnl.2 (show 100 < nf by omega) hT1 g12
    rw [hnn, hbn, mi_mi] at p3
    have f37 : ∀ j, (rm_i m 1 2 (nI (nx B K a))).1 37 j = m.1 37 j := fun j => by rw [mi_get, if_neg (by omega)]
    have f4 : ∀ j, (rm_i m 1 2 (nI (nx B K a))).1 4 j = m.1 4 j := fun j => by rw [mi_get, if_neg (by omega)]
    have f4' : ∀ j, (rm_i m 1 2 (nI (nx B K a + 1))).1 4 j = m.1 4 j := fun j => by rw [mi_get, if_neg (by omega)]
    rw [tp_readHeap_l3, if_neg (by rw [k12, nI_ltI (by omega) (by omega)]; omega), p1]
    unfold ga_cards
    simp only [Option.bind_some, p2, p3]
    by_cases q : bx B K a = 63
    · simp only [if_pos q, f37, f4, g12, nI_1, mi_mi, f4']
    · simp only [if_neg q, f37, f4, nI_1]
  have hM0 : ∀ nf m, 200 < nf → GZ S m → mo_readTable_l44 (nI c) (nf + 1) (nI (bd (S 3) M)) (nI all) (nI u) (bx B K a) m = (if bx B K a < 0 then some (.inr (nI (bd (S 3) M), nI all, nI u, bx B K a, m)) else if bx B K a = 59 then some (.inr (nI (bd (S 3) M), nI all, nI u, bx B K a, m)) else if nI all = nI (S 1 * S 2) then some (.inl (0, m)) else if bx B K a = 63 then (if nI u = 3 then some (.inl (0, m)) else if rn_in (nI c) 64 = true then if rn_in (((4 : Int32) + ((12 : Int32) * nI c)) + ((rm_i m 115 3 ((m.1 115 3) + 1)).1 118 (nI c).toNatClampNeg)) 64 = true then (some (rm_i (rm_i m 115 3 ((m.1 115 3) + 1)) 118 (((4 : Int32) + ((12 : Int32) * nI c)) + ((rm_i m 115 3 ((m.1 115 3) + 1)).1 118 (nI c).toNatClampNeg)).toNatClampNeg (-1))).bind fun (m28 : rn_Mem) => (some (rm_i m28 118 (nI c).toNatClampNeg ((m28.1 118 (nI c).toNatClampNeg) + 1))).bind fun (m31 : rn_Mem) => (mo_nextByte nf m31).bind fun (r35, m34) => mo_readTable_l44 (nI c) nf (nI (bd (S 3) M)) (nI all + 1) (nI u + 1) r35 m34 else none else none) else (mo_readCard nf (nI (bd (S 3) M)) m).bind fun (r38, m37) => if r38 < 0 then some (.inl (0, m37)) else if rn_in (nI c) 64 = true then if rn_in (((4 : Int32) + ((12 : Int32) * nI c)) + (m37.1 118 (nI c).toNatClampNeg)) 64 = true then (some (rm_i m37 118 (((4 : Int32) + ((12 : Int32) * nI c)) + (m37.1 118 (nI c).toNatClampNeg)).toNatClampNeg r38)).bind fun (m43 : rn_Mem) => (some (rm_i m43 118 (nI c).toNatClampNeg ((m43.1 118 (nI c).toNatClampNeg) + 1))).bind fun (m46 : rn_Mem) => (mo_nextByte nf m46).bind fun (r50, m49) => mo_readTable_l44 (nI c) nf (nI (bd (S 3) M) &&& (((1 : Int32) <<< (r38 &&& 31)) ^^^ (-1))) (nI all + 1) (nI u) r50 m49 else none else none) := by
    intro nf m hnf hZ
    have h64 : rn_in (nI c) 64 = true := (in_n (by omega)).mpr (by omega)
    rw [mo_readTable_l44]
    unfold mo_size
    simp only [Option.bind_some, if_pos h64]
    rw [hZ.1, hZ.2.1, pk_mul]
  have hMa : ∀ {m : rn_Mem}, m.1 115 3 = nI (nx B K a) → rm_i m 115 3 (nI (nx B K a)) = m := fun h => mi_id _ _ _ _ h
  -- it goes on behind a card
  have cont : ∀ x a1, ((x = 16 ∧ u < 3) ∨ (x < 16 ∧ (S 3).testBit x = true ∧ M.testBit x = false)) → a1 ≤ K → all < S 1 * S 2 → (∀ nf m, 200 < nf → TC B K m → m.1 1 2 = nI a → GC S m → CT S A all u M m → tp_readHeap_l3 37 4 (nI c) (nf + 1) (nI (A (12 + c))) m = (ta_lay nf 37 (nI c) (cC x) (nI (S 1)) (rm_i m 1 2 (nI a1))).bind fun m26 => tp_readHeap_l3 37 4 (nI c) nf (nI (A (12 + c) + 1)) m26) → (∀ nf m, 200 < nf → TM B K m → m.1 115 3 = nI (nx B K a) → GZ S m → MU A c m → mo_readTable_l44 (nI c) (nf + 1) (nI (bd (S 3) M)) (nI all) (nI u) (bx B K a) m = (mo_nextByte nf (rm_i (rm_i (rm_i m 115 3 (nI a1)) 118 (4 + 12 * c + A (12 + c)) (zC x)) 118 c (nI (A (12 + c) + 1)))).bind fun (r35, m34) => mo_readTable_l44 (nI c) nf (nI (bd (S 3) (if x < 16 then M ||| 2 ^ x else M))) (nI (all + 1)) (nI (if x < 16 then u else u + 1)) r35 m34) → ∃ (o e all' u' M' : Nat) (A' : Nat → Nat), e ≤ K ∧ IV S A' all' u' M' ∧ all' ≤ S 1 * S 2 ∧ (∀ d, d < 4 → d ≠ c → A' (12 + d) = A (12 + d)) ∧ HO B K o e ∧ HR B S K c r a all u M A o e all' u' M' A' := by
    intro x a1 hx ha1 hlt hCe hMe
    have hx16 : x ≤ 16 := by omega
    have hI2 := IV_ly w2 (by omega) hI hc hx
    obtain ⟨o, e, all', u', M', A', b1, b2, b3, b4, b5, b6, b7⟩ := ih (r - 1) (by omega) a1 (all + 1) _ _ (ly A c x) (by omega) hI2 ha1
    have hls : ly A c x (12 + c) = A (12 + c) + 1 := by rw [ly_s (by omega), if_pos rfl]
    rw [hls] at b6
    refine ⟨o, e, all', u', M', A', b1, b2, b3, fun d hd hdc => ?_, b5, fun nf m hnf hT h hG hCT => ?_, fun nf m hnf hT h hZ hMU => ?_⟩
    · rw [b4 d hd hdc, ly_s hd, if_neg hdc]
    · obtain ⟨nf, rfl⟩ : ∃ e, nf = e + 1 := ⟨nf - 1, by omega⟩
      obtain ⟨m1, c1, c2, c3, c4⟩ := ta_lay_sp (nf := nf) (x := x) w1 w2 (by omega) hI hc hx16 (CT_a hCT (nI a1))
      have k1 : Kq Pct m m1 := (Kq.rf.sti (Or.inr ⟨rfl, rfl⟩)).tr c3
      obtain ⟨m2, d1, d2, d3, d4⟩ := b6 nf m1 (by omega) (TC_P hT k1) (by rw [c4, g12]) (GC_P hG k1) c2
      exact ⟨m2, by rw [hCe nf m (by omega) hT h hG hCT, c1]; exact d1, d2, d3, k1.tr d4⟩
    · obtain ⟨nf, rfl⟩ : ∃ e, nf = e + 1 := ⟨nf - 1, by omega⟩
      have hT2 : TM B K (rm_i (rm_i (rm_i m 115 3 (nI a1)) 118 (4 + 12 * c + A (12 + c)) (zC x)) 118 c (nI (A (12 + c) + 1))) := TM_k (TM_k (TM_k hT (by omega) (by omega)) (by omega) (by omega)) (by omega) (by omega)
      have hnb := m_next hB ha1 (show 100 < nf by omega) hT2 (by rw [g118, g118, g115])
      have k1 : Kq Pmt m (rm_i (rm_i (rm_i (rm_i m 115 3 (nI a1)) 118 (4 + 12 * c + A (12 + c)) (zC x)) 118 c (nI (A (12 + c) + 1))) 115 3 (nI (nx B K a1))) := (((Kq.rf.sti (Or.inr ⟨rfl, rfl⟩)).sti (Or.inl rfl)).sti (Or.inl rfl)).sti (Or.inr ⟨rfl, rfl⟩)
      obtain ⟨m2, d1, d2, d3, d4⟩ := b7 nf _ (by omega) (TM_P hT k1) g115 (GZ_P hZ k1) (by
        refine MU_a ⟨fun d hd => ?_, fun d i hd hi => ?_⟩ _
        · rw [mi_get, ly_s (by omega)]
          by_cases q : d = c
          · rw [if_pos ⟨rfl, q⟩, if_pos q]
          · rw [if_neg (fun z => q z.2), if_neg q, mi_get, if_neg (by omega), mi_get, if_neg (by omega)]; exact hMU.1 d hd
        · rw [ly_s (by omega)] at hi
          have sd := hsz d (by omega)
          have hi12 : i < 12 := by split at hi <;> omega
          rw [mi_get, if_neg (by omega), mi_get, ly_c (by omega) (by omega) (by omega) hi12]
          by_cases q : d = c ∧ i = A (12 + c)
          · rw [if_pos (by rw [q.1, q.2]; exact ⟨rfl, rfl⟩), if_pos q]
          · rw [if_neg (by omega), if_neg q, mi_get, if_neg (by omega)]
            refine hMU.2 d i hd ?_
            split at hi
            · rename_i e; subst e; omega
            · exact hi)
      refine ⟨m2, ?_, d2, d3, k1.tr d4⟩
      rw [hMe nf m (by omega) hT h hZ hMU, hnb]
      exact d1
  -- the end of the heap
  have stop : ∀ o, (o = 1 ∧ (bx B K a < 0 ∨ bx B K a = 59)) ∨ (o = 2 ∧ ¬ bx B K a < 0 ∧ ¬ bx B K a = 59) → ¬ bx B K a = 63 → dI (suo (bx B K a)) < 0 → (∀ nf m, 200 < nf → TM B K m → m.1 115 3 = nI (nx B K a) → GZ S m → MU A c m → mo_readTable_l44 (nI c) (nf + 1) (nI (bd (S 3) M)) (nI all) (nI u) (bx B K a) m = some (if o = 1 then .inr (nI (bd (S 3) M), nI all, nI u, bx B K a, m) else .inl (0, m))) → ∃ (o e all' u' M' : Nat) (A' : Nat → Nat), e ≤ K ∧ IV S A' all' u' M' ∧ all' ≤ S 1 * S 2 ∧ (∀ d, d < 4 → d ≠ c → A' (12 + d) = A (12 + d)) ∧ HO B K o e ∧ HR B S K c r a all u M A o e all' u' M' A' := by
    intro o ho h63 hsu hMe
    refine ⟨o, nx B K a, all, u, M, A, hnl.2, hI, by omega, fun d hd hdc => rfl, ?_, fun nf m hnf hT h hG hCT => ?_, fun nf m hnf hT h hZ hMU => ?_⟩
    · rcases ho with ⟨rfl, q⟩ | ⟨rfl, q⟩
      · exact Or.inr (Or.inl ⟨rfl, hnn, by rw [hbn]; exact q⟩)
      · exact Or.inr (Or.inr ⟨rfl, hnn, by rw [hbn]; exact q⟩)
    · obtain ⟨nf, rfl⟩ : ∃ e, nf = e + 1 := ⟨nf - 1, by omega⟩
      refine ⟨rm_i m 1 2 (nI (nx B K a)), ?_, g12, fun _ => CT_a hCT _, Kq.rf.sti (Or.inr ⟨rfl, rfl⟩)⟩
      rw [hC0 nf m (by omega) hT h, if_neg h63, if_pos hsu, if_neg (by omega)]
    · obtain ⟨nf, rfl⟩ : ∃ e, nf = e + 1 := ⟨nf - 1, by omega⟩
      refine ⟨m, ?_, h, fun _ => hMU, Kq.rf⟩
      rw [hMe nf m (by omega) hT h hZ hMU, hbn]
  -- a fault here
  have fault : ∀ e, e ≤ K → (∀ nf m, 200 < nf → TC B K m → m.1 1 2 = nI a → GC S m → CT S A all u M m → tp_readHeap_l3 37 4 (nI c) (nf + 1) (nI (A (12 + c))) m = some (.inl (0, rm_i m 1 2 (nI e)))) → (∀ nf m, 200 < nf → TM B K m → m.1 115 3 = nI (nx B K a) → GZ S m → MU A c m → mo_readTable_l44 (nI c) (nf + 1) (nI (bd (S 3) M)) (nI all) (nI u) (bx B K a) m = some (.inl (0, rm_i m 115 3 (nI e)))) → ∃ (o e all' u' M' : Nat) (A' : Nat → Nat), e ≤ K ∧ IV S A' all' u' M' ∧ all' ≤ S 1 * S 2 ∧ (∀ d, d < 4 → d ≠ c → A' (12 + d) = A (12 + d)) ∧ HO B K o e ∧ HR B S K c r a all u M A o e all' u' M' A' := by
    intro e he hCe hMe
    refine ⟨0, e, all, u, M, A, he, hI, by omega, fun d hd hdc => rfl, Or.inl rfl, fun nf m hnf hT h hG hCT => ?_, fun nf m hnf hT h hZ hMU => ?_⟩
    · obtain ⟨nf, rfl⟩ : ∃ e, nf = e + 1 := ⟨nf - 1, by omega⟩
      exact ⟨_, by rw [hCe nf m (by omega) hT h hG hCT]; rfl, g12, fun z => absurd rfl z, Kq.rf.sti (Or.inr ⟨rfl, rfl⟩)⟩
    · obtain ⟨nf, rfl⟩ : ∃ e, nf = e + 1 := ⟨nf - 1, by omega⟩
      exact ⟨_, by rw [hMe nf m (by omega) hT h hZ hMU]; rfl, g115, fun z => absurd z (by decide), Kq.rf.sti (Or.inr ⟨rfl, rfl⟩)⟩
  have hcards : ∀ {m : rn_Mem}, GC S m → CT S A all u M m → ((m.1 37 4) < (m.1 4 1) * (m.1 4 2) ↔ all < S 1 * S 2) := by
    intro m hG hCT
    rw [hCT.2.1, hG.1, hG.2.1, pk_mul, nI_ltI (by omega) (by omega)]
  have heqs : nI all = nI (S 1 * S 2) ↔ all = S 1 * S 2 := nI_eq (by omega) (by omega)
  by_cases q1 : bx B K a < 0
  · have e1 : bx B K a = mI 1 := by
      rcases bx_c hB ha with ⟨_, h⟩ | ⟨_, b, _, _, h⟩
      · exact h
      · rw [h, k0, nI_ltI (by omega) (by omega)] at q1; omega
    refine stop 1 (Or.inl ⟨rfl, Or.inl q1⟩) (by rw [e1]; decide) (by rw [e1]; decide) fun nf m hnf hT h hZ hMU => ?_
    rw [hM0 nf m hnf hZ, if_pos q1]
    rfl
  by_cases q2 : bx B K a = 59
  · refine stop 1 (Or.inl ⟨rfl, Or.inr q2⟩) (by rw [q2]; decide) (by rw [q2]; decide) fun nf m hnf hT h hZ hMU => ?_
    rw [hM0 nf m hnf hZ, if_neg q1, if_pos q2]
    rfl
  by_cases q3 : bx B K a = 63
  · have hlt : nx B K a < K := by
      rcases bx_c hB ha with ⟨_, h⟩ | ⟨h, _⟩
      · rw [h] at q3; exact absurd q3 (by decide)
      · exact h
    by_cases q4 : all < S 1 * S 2
    case neg =>
      refine fault (nx B K a) hnl.2 (fun nf m hnf hT h hG hCT => ?_) fun nf m hnf hT h hZ hMU => ?_
      · rw [hC0 nf m hnf hT h, if_pos q3, if_neg (by rw [hcards hG hCT]; exact q4)]
      · rw [hM0 nf m hnf hZ, if_neg q1, if_neg q2, if_pos (heqs.mpr (by omega)), hMa h]
    by_cases q5 : u < 3
    case neg =>
      refine fault (nx B K a) hnl.2 (fun nf m hnf hT h hG hCT => ?_) fun nf m hnf hT h hZ hMU => ?_
      · rw [hC0 nf m hnf hT h, if_pos q3, if_pos ((hcards hG hCT).mpr q4), if_neg (by rw [hCT.2.2.2.1, k3, nI_ltI (by omega) (by omega)]; exact q5)]
      · rw [hM0 nf m hnf hZ, if_neg q1, if_neg q2, if_neg (mt heqs.mp (by omega)), if_pos q3, if_pos (by rw [k3, nI_eq (by omega) (by omega)]; omega), hMa h]
    refine cont 16 (nx B K a + 1) (Or.inl ⟨rfl, q5⟩) (by omega) q4 (fun nf m hnf hT h hG hCT => ?_) fun nf m hnf hT h hZ hMU => ?_
    · rw [hC0 nf m hnf hT h, if_pos q3, if_pos ((hcards hG hCT).mpr q4), if_pos (by rw [hCT.2.2.2.1, k3, nI_ltI (by omega) (by omega)]; exact q5), hG.1]
      rfl
    · have e118 : (rm_i m 115 3 (nI (nx B K a + 1))).1 118 c = nI (A (12 + c)) := by
        rw [mi_get, if_neg (by omega)]; exact hMU.1 c (Nat.le_refl c)
      rw [hM0 nf m hnf hZ, if_neg q1, if_neg q2, if_neg (mt heqs.mp (by omega)), if_pos q3, if_neg (by rw [k3, nI_eq (by omega) (by omega)]; omega), if_pos ((in_n (by omega)).mpr (by omega)), h, nI_1, nI_n (by omega), e118, k4, k12, pk_mul, nI_add, nI_add, if_pos ((in_n (by omega)).mpr (by omega)), nI_n (by omega)]
      simp only [Option.bind_some]
      have e118b : (rm_i (rm_i m 115 3 (nI (nx B K a + 1))) 118 (4 + 12 * c + A (12 + c)) (-1)).1 118 c = nI (A (12 + c)) := by
        rw [mi_get, if_neg (by omega)]; exact e118
      rw [e118b, nI_1, nI_1, nI_1, if_neg (show ¬ 16 < 16 by omega), if_neg (show ¬ 16 < 16 by omega)]
      rfl
  cases es : suo (bx B K a) with
  | none =>
    refine stop 2 (Or.inr ⟨rfl, q1, q2⟩) q3 (by rw [es]; decide) fun nf m hnf hT h hZ hMU => ?_
    rw [hM0 nf m hnf hZ, if_neg q1, if_neg q2]
    by_cases q4 : all = S 1 * S 2
    · rw [if_pos (heqs.mpr q4)]; rfl
    · rw [if_neg (mt heqs.mp q4), if_neg q3]
      have : mo_readCard nf (nI (bd (S 3) M)) m = some (-1, m) := by
        unfold mo_readCard
        rw [m_suit hB hnl.2 (by omega) hT h]
        unfold sua
        rw [hbn, es, hnn]
        simp only [Option.bind_some]
        rw [if_pos (by decide)]
        show some (-1, rm_i m 115 3 (nI (nx B K a))) = _
        rw [hMa h]
      rw [this]
      rfl
  | some s =>
    have hs4 := suo_lt es
    have hnsu : ¬ dI (suo (bx B K a)) < 0 := by rw [es, show dI (some s) = nI s from rfl, k0, nI_ltI (by omega) (by omega)]; omega
    by_cases q4 : all < S 1 * S 2
    case neg =>
      refine fault (nx B K a) hnl.2 (fun nf m hnf hT h hG hCT => ?_) fun nf m hnf hT h hZ hMU => ?_
      · rw [hC0 nf m hnf hT h, if_neg q3, if_neg hnsu, if_neg (by rw [hcards hG hCT]; exact q4)]
      · rw [hM0 nf m hnf hZ, if_neg q1, if_neg q2, if_pos (heqs.mpr (by omega)), hMa h]
    have hbl : bd (S 3) M < 65536 := bd_lt (k := 16) w6
    obtain ⟨d, a1, y1, y2, y3, y4⟩ := S_card hB hnl.2 ((nI (S 3) ^^^ (-1)) ||| nI M) (nI (bd (S 3) M)) (by
      intro x hx
      rw [obit hx, bit_0 (by omega) (by omega), bd_bit]
      cases (S 3).testBit x <;> cases M.testBit x <;> decide)
    cases d with
    | none =>
      refine fault a1 y1 (fun nf m hnf hT h hG hCT => ?_) fun nf m hnf hT h hZ hMU => ?_
      · rw [hC0 nf m hnf hT h, if_neg q3, if_neg hnsu, if_pos ((hcards hG hCT).mpr q4), hG.2.2, hCT.2.2.1, y3 nf _ (by omega) (TC_k hT (by omega) (by omega)) g12, mi_mi]
        rfl
      · rw [hM0 nf m hnf hZ, if_neg q1, if_neg q2, if_neg (mt heqs.mp (by omega)), if_neg q3, y4 nf m (by omega) hT h]
        rfl
    | some v =>
      obtain ⟨hv, hv2⟩ := y2 v rfl
      have hv3 : (bd (S 3) M).testBit v = true := by
        have := mt (bit_0 (show bd (S 3) M < 2 ^ 31 by omega) (show v < 32 by omega)).mpr hv2
        simpa using this
      rw [bd_bit, Bool.and_eq_true] at hv3
      have hd0 : ¬ dI (some v) < 0 := by rw [show dI (some v) = nI v from rfl, k0, nI_ltI (by omega) (by omega)]; omega
      have hcv : dI (some v) = cC v := by unfold cC; rw [if_pos hv]; rfl
      have hzv : dI (some v) = zC v := by unfold zC; rw [if_pos hv]; rfl
      refine cont v a1 (Or.inr ⟨hv, hv3.1, by simpa using hv3.2⟩) y1 q4 (fun nf m hnf hT h hG hCT => ?_) fun nf m hnf hT h hZ hMU => ?_
      · rw [hC0 nf m hnf hT h, if_neg q3, if_neg hnsu, if_pos ((hcards hG hCT).mpr q4), hG.2.2, hCT.2.2.1, y3 nf _ (by omega) (TC_k hT (by omega) (by omega)) g12, mi_mi]
        simp only [Option.bind_some]
        rw [if_neg hd0, hcv, show (rm_i m 1 2 (nI a1)).1 4 1 = nI (S 1) by rw [mi_get, if_neg (by omega)]; exact hG.1]
      · have e118 : (rm_i m 115 3 (nI a1)).1 118 c = nI (A (12 + c)) := by
          rw [mi_get, if_neg (by omega)]; exact hMU.1 c (Nat.le_refl c)
        rw [hM0 nf m hnf hZ, if_neg q1, if_neg q2, if_neg (mt heqs.mp (by omega)), if_neg q3, y4 nf m (by omega) hT h]
        simp only [Option.bind_some]
        rw [if_neg hd0, if_pos ((in_n (by omega)).mpr (by omega)), nI_n (by omega), e118, k4, k12, pk_mul, nI_add, nI_add, if_pos ((in_n (by omega)).mpr (by omega)), nI_n (by omega)]
        have e118b : (rm_i (rm_i m 115 3 (nI a1)) 118 (4 + 12 * c + A (12 + c)) (dI (some v))).1 118 c = nI (A (12 + c)) := by
          rw [mi_get, if_neg (by omega)]; exact e118
        rw [e118b, nI_1, nI_1, if_pos hv, if_pos hv, show dI (some v) = nI v from rfl, shl_1 (by omega), bd_n, bd_bd, show nI v = zC v from hzv]
