/-! TABLE: heap by heap -/
def ctl (N : Nat) (q : (Int32 × rn_Mem) ⊕ rn_Mem) : Option (Int32 × rn_Mem) := match q with
  | .inl o => some o
  | .inr m23 => (tp_ended N m23).bind fun (r26, m25) => if r26 = 0 then some (0, m25) else (ga_cards N 4 m25).bind fun (r30, m29) => if (m25.1 37 4) = r30 then some (1, m29) else some (0, m29)
def mtl (N : Nat) (q : (Int32 × rn_Mem) ⊕ (Int32 × rn_Mem)) : Option (Int32 × rn_Mem) := match q with
  | .inl o => some o
  | .inr (x80, m78) => (mo_size N m78).bind fun (r86, m85) => if x80 = r86 then some (1, m85) else some (0, m85)
def cgo (nf c : Nat) (p : Int32 × rn_Mem) : Option ((Int32 × rn_Mem) ⊕ rn_Mem) := if p.1 = 0 then some (.inl (0, p.2)) else tp_readTable_l6 37 4 nf (nI (c + 1)) p.2
def MV (A : Nat → Nat) (c : Nat) (m : rn_Mem) : Prop := (∀ d, d < c → m.1 118 d = nI (A (12 + d))) ∧ ∀ d i, d < c → i < A (12 + d) → m.1 118 (4 + 12 * d + i) = zC (A (16 + 12 * d + i))
theorem whole_iff {s n : Nat} (hn : 0 < n) : s = s / n * n ↔ s % n = 0 := by
  have := Nat.div_add_mod s n
  rw [Nat.mul_comm]
  omega
theorem l6_next {c nf : Nat} {m : rn_Mem} {n : Nat} (hc : c + 1 < n) (hn4 : n ≤ 4) (h1 : m.1 4 1 = nI n) : tp_readTable_l6 37 4 (nf + 1) (nI (c + 1)) m = (tp_take nf 59 m).bind fun p => if p.1 = 0 then some (.inl (0, p.2)) else (tp_readHeap nf 37 4 (nI (c + 1)) p.2).bind (cgo nf (c + 1)) := by
  rw [tp_readTable_l6, h1, if_pos (by rw [nI_ltI (by omega) (by omega)]; exact hc), if_pos (by rw [k0, nI_ltI (by omega) (by omega)]; omega)]
  simp only [Option.bind_some, nI_1]
  rfl
theorem l6_end {nf : Nat} {m : rn_Mem} {n : Nat} (hn4 : n ≤ 4) (h1 : m.1 4 1 = nI n) : tp_readTable_l6 37 4 (nf + 1) (nI n) m = some (.inr m) := by
  rw [tp_readTable_l6, h1, if_neg (by rw [nI_ltI (by omega) (by omega)]; omega)]
set_option maxHeartbeats 4000000 in
theorem T_rest {B S : Nat → Nat} {K : Nat} (hB : TB B K) (wg : WG S) : ∀ (r c a all u M : Nat) (A : Nat → Nat), c + r + 1 = S 1 → IV S A all u M → all ≤ S 1 * S 2 → (∀ d, d < 4 → c ≤ d → A (12 + d) = 0) → a ≤ K → (∀ d, d < c → A (12 + d) = A (12 + d) / S 1 * S 1) → ∃ (ok : Bool) (e all' u' M' : Nat) (A' : Nat → Nat), e ≤ K ∧ (ok = true → IV S A' all' u' M' ∧ all' = S 1 * S 2 ∧ ∀ d, d < S 1 → A' (12 + d) = A' (12 + d) / S 1 * S 1) ∧ (∀ nf N m, r + 301 < nf → 200 < N → TC B K m → m.1 1 2 = nI a → GC S m → CT S A all u M m → ∃ m2, ((tp_readHeap nf 37 4 (nI c) m).bind (cgo nf c)).bind (ctl N) = some (o01 ok, m2) ∧ m2.1 1 2 = nI e ∧ (ok = true → CT S A' all' u' M' m2) ∧ Kq Pct m m2) ∧ (∀ nf N m, r + 301 < nf → 200 < N → TM B K m → m.1 115 3 = nI a → GZ S m → MV A c m → ∃ m2, (mo_readTable_l19 nf (nI (bd (S 3) M)) (nI all) (nI u) (nI c) m).bind (mtl N) = some (o01 ok, m2) ∧ m2.1 115 3 = nI e ∧ (ok = true → MV A' (S 1) m2) ∧ Kq Pmt m m2) := by
  obtain ⟨w1, w2, w3, w4, w5, w6, w7, w8, w9, w10, w11, w12⟩ := wg
  have wg : WG S := ⟨w1, w2, w3, w4, w5, w6, w7, w8, w9, w10, w11, w12⟩
  intro r
  induction r with
  | zero =>
    intro c a all u M A hcr hI hall hz ha hwh
    have hc : c < S 1 := by omega
    obtain ⟨o, e, all', u', M', A', b1, b2, b3, b4, b5, b6, b7⟩ := T_heap hB wg hc (S 1 * S 2 - all) a all u M A (by omega) hI ha
    have hAc : A (12 + c) = 0 := hz c (by omega) (Nat.le_refl c)
    rw [hAc] at b6
    have hA'c : A' (12 + c) ≤ all' := IV_sz b2 hc
    have hm1 : nI (S 1) - 1 = nI (S 1 - 1) := pk_sub (b := 1) (by omega)
    -- the reference: one heap
    have hM : ∀ nf m, 300 < nf → TM B K m → m.1 115 3 = nI a → GZ S m → MV A c m → ∃ m2, mo_readTable_l19 (nf + 1) (nI (bd (S 3) M)) (nI all) (nI u) (nI c) m = (if o = 1 ∧ A' (12 + c) % S 1 = 0 ∧ bx B K e < 0 then mo_readTable_l19 nf (nI (bd (S 3) M')) (nI all') (nI u') (nI (c + 1)) m2 else some (.inl (0, m2))) ∧ m2.1 115 3 = nI e ∧ (o = 1 → MU A' c m2) ∧ Kq Pmt m m2 := by
      intro nf m hnf hT h hZ hV
      have k1 : Kq Pmt m (rm_i (rm_i m 118 c 0) 115 3 (nI (nx B K a))) := (Kq.rf.sti (Or.inl rfl)).sti (Or.inr ⟨rfl, rfl⟩)
      obtain ⟨m2, d1, d2, d3, d4⟩ := b7 nf (rm_i (rm_i m 118 c 0) 115 3 (nI (nx B K a))) (by omega) (TM_P hT k1) g115 (GZ_P hZ k1) (by
        refine MU_a ⟨fun d hd => ?_, fun d i hd hi => ?_⟩ _
        · rw [mi_get]
          by_cases q : d = c
          · rw [if_pos ⟨rfl, q⟩, q, hAc]; rfl
          · rw [if_neg (fun z => q z.2)]; exact hV.1 d (by omega)
        · by_cases q : d = c
          · rw [q, hAc] at hi; omega
          · rw [mi_get, if_neg (by omega)]; exact hV.2 d i (by omega) hi)
      have hnb := m_next hB ha (show 100 < nf by omega) (m := rm_i m 118 c 0) (TM_k hT (by omega) (by omega)) (by rw [g118]; exact h)
      have hZ2 := GZ_P hZ (k1.tr d4)
      have hhead : mo_readTable_l19 (nf + 1) (nI (bd (S 3) M)) (nI all) (nI u) (nI c) m = (mo_readTable_l44 (nI c) nf (nI (bd (S 3) M)) (nI all) (nI u) (bx B K a) (rm_i (rm_i m 118 c 0) 115 3 (nI (nx B K a)))).bind fun q => match q with
          | .inl o => some (.inl o)
          | .inr (x53, x54, x55, x56, m52) => (if nI c = ((m52.1 116 1) - 1) then some (1 : Int32) else some 0).bind fun x60 => if rn_in (nI c) 64 = true then if ¬ (m52.1 116 1) = 0 then if (rn_rem (m52.1 118 (nI c).toNatClampNeg) (m52.1 116 1)) = 0 then (if x56 < 0 then some (1 : Int32) else some 0).bind fun x66 => if x60 = x66 then (if x60 = 0 then some (1 : Int32) else some 0).bind fun x71 => mo_readTable_l19 nf x53 x54 x55 (nI c + 1) (rm_i m52 115 3 ((m52.1 115 3) + x71)) else some (.inl (0, m52)) else some (.inl (0, m52)) else none else none := by
        rw [mo_readTable_l19, hZ.1, if_pos (by rw [nI_ltI (by omega) (by omega)]; exact hc), if_pos ((in_n (by omega)).mpr (by omega)), nI_n (by omega)]
        simp only [Option.bind_some]
        rw [hnb]
        rfl
      refine ⟨m2, ?_, d2, d3, k1.tr d4⟩
      rw [hhead, d1]
      by_cases qo : o = 1
      · rw [if_pos qo]
        simp only [Option.bind_some]
        rw [hZ2.1, hm1, if_pos (by rw [nI_eq (by omega) (by omega)]; omega)]
        simp only [Option.bind_some]
        rw [if_pos ((in_n (by omega)).mpr (by omega)), if_pos (show ¬ nI (S 1) = 0 from nI_ne0 (by omega) (by omega)), nI_n (by omega), (d3 qo).1 c (Nat.le_refl c), rem_n (by omega) (by omega) (by omega)]
        by_cases qw : A' (12 + c) % S 1 = 0
        · rw [if_pos (by rw [qw]; rfl)]
          by_cases qe : bx B K e < 0
          · rw [if_pos qe]
            simp only [Option.bind_some, if_true]
            rw [show (if (1 : Int32) = 0 then some (1 : Int32) else some 0) = some 0 from rfl]
            simp only [Option.bind_some]
            rw [if_pos ⟨qo, qw, qe⟩, d2, k0, nI_add, Nat.add_zero, mi_id m2 115 3 (nI e) d2, nI_1]
          · rw [if_neg qe]
            simp only [Option.bind_some]
            rw [if_neg (show ¬ (1 : Int32) = 0 by decide), if_neg (fun z => qe z.2.2)]
        · have := Nat.mod_lt (A' (12 + c)) (show S 1 > 0 by omega)
          rw [if_neg (nI_ne0 (by omega) (by omega)), if_neg (fun z => qw z.2.1)]
      · rw [if_neg qo, if_neg (fun z => qo z.1)]
        rfl
    -- the class: one heap
    have hCl : ∀ nf m, 300 < nf → TC B K m → m.1 1 2 = nI a → GC S m → CT S A all u M m → ∃ m2, (tp_readHeap nf 37 4 (nI c) m).bind (cgo nf c) = (if o ≠ 0 ∧ A' (12 + c) % S 1 = 0 then some (.inr m2) else some (.inl (0, m2))) ∧ m2.1 1 2 = nI e ∧ (o ≠ 0 → CT S A' all' u' M' m2) ∧ Kq Pct m m2 := by
      intro nf m hnf hT h hG hCT
      obtain ⟨nf, rfl⟩ : ∃ e, nf = e + 1 := ⟨nf - 1, by omega⟩
      obtain ⟨m2, d1, d2, d3, d4⟩ := b6 (nf + 1) m (by omega) hT h hG hCT
      have hG2 := GC_P hG d4
      refine ⟨m2, ?_, d2, d3, d4⟩
      unfold tp_readHeap
      rw [show tp_readHeap_l3 37 4 (nI c) (nf + 1) 0 m = _ from d1]
      by_cases qo : o = 0
      · rw [if_pos qo, if_neg (fun z => z.1 qo)]
        rfl
      · rw [if_neg qo]
        simp only [Option.bind_some]
        unfold ta_whole
        have hle : A' (12 + c) / S 1 * S 1 ≤ A' (12 + c) := Nat.div_mul_le_self _ _
        rw [if_pos ((in_n (by omega)).mpr (by omega)), if_pos ((in_n (by omega)).mpr (by omega)), nI_n (by omega), ((d3 qo).2.2.2.2.1 c (by omega)).1, ((d3 qo).2.2.2.2.1 c (by omega)).2, hG2.1, pk_mul]
        by_cases qw : A' (12 + c) % S 1 = 0
        · rw [if_pos (by rw [nI_eq (by omega) (by omega)]; exact (whole_iff (by omega)).mpr qw), if_pos ⟨qo, qw⟩]
          simp only [Option.bind_some]
          rw [if_pos (by decide)]
          simp only [Option.bind_some]
          unfold cgo
          rw [if_neg (show ¬ (1 : Int32) = 0 by decide), show c + 1 = S 1 by omega]
          exact l6_end w2 hG2.1
        · rw [if_neg (by rw [nI_eq (by omega) (by omega)]; exact fun z => qw ((whole_iff (by omega)).mp z)), if_neg (fun z => qw z.2)]
          rfl
    have hMend : ∀ nf m, 0 < nf → GZ S m → mo_readTable_l19 nf (nI (bd (S 3) M')) (nI all') (nI u') (nI (c + 1)) m = some (.inr (nI all', m)) := by
      intro nf m hnf hZ
      obtain ⟨nf, rfl⟩ : ∃ e, nf = e + 1 := ⟨nf - 1, by omega⟩
      rw [mo_readTable_l19, hZ.1, if_neg (by rw [nI_ltI (by omega) (by omega)]; omega)]
    have hend : ∀ N m, 200 < N → TC B K m → m.1 1 2 = nI e → nx B K e = e → tp_ended N m = some (if bx B K e < 0 then 1 else 0, m) := by
      intro N m hN hT h hne
      unfold tp_ended
      rw [c_peek hB b1 (by omega) hT h, hne, mi_id m 1 2 (nI e) h]
      simp only [Option.bind_some]
      split <;> rfl
    refine ⟨decide (o = 1 ∧ A' (12 + c) % S 1 = 0 ∧ bx B K e < 0 ∧ all' = S 1 * S 2), e, all', u', M', A', b1, fun hok => ?_, fun nf N m hnf hN hT h hG hCT => ?_, fun nf N m hnf hN hT h hZ hV => ?_⟩
    · have hok := of_decide_eq_true hok
      refine ⟨b2, hok.2.2.2, fun d hd => ?_⟩
      by_cases q : d = c
      · rw [q]; exact (whole_iff (by omega)).mpr hok.2.1
      · rw [b4 d (by omega) q]; exact hwh d (by omega)
    · obtain ⟨m2, d1, d2, d3, d4⟩ := hCl nf m (by omega) hT h hG hCT
      refine ⟨m2, ?_, d2, fun hok => d3 (by have := of_decide_eq_true hok; omega), d4⟩
      rw [d1]
      have hT2 := TC_P hT d4
      have hG2 := GC_P hG d4
      by_cases q1 : o ≠ 0 ∧ A' (12 + c) % S 1 = 0
      · rw [if_pos q1]
        have hne : nx B K e = e := by
          rcases b5 with z | ⟨_, z, _⟩ | ⟨_, z, _⟩
          · exact absurd z q1.1
          · exact z
          · exact z
        show ctl N (.inr m2) = _
        unfold ctl
        simp only
        rw [hend N m2 hN hT2 d2 hne]
        simp only [Option.bind_some]
        by_cases q2 : bx B K e < 0
        · have ho1 : o = 1 := by
            rcases b5 with z | ⟨z, _⟩ | ⟨_, _, z, _⟩
            · exact absurd z q1.1
            · exact z
            · exact absurd q2 z
          rw [if_pos q2, if_neg (by decide)]
          unfold ga_cards
          simp only [Option.bind_some]
          rw [(d3 q1.1).2.1, hG2.1, hG2.2.1, pk_mul]
          by_cases q3 : all' = S 1 * S 2
          · rw [if_pos (by rw [q3]), decide_eq_true ⟨ho1, q1.2, q2, q3⟩]; rfl
          · rw [if_neg (by rw [nI_eq (by omega) (by omega)]; exact q3), decide_eq_false (fun z => q3 z.2.2.2)]; rfl
        · rw [if_neg q2, if_pos rfl, decide_eq_false (fun z => q2 z.2.2.1)]; rfl
      · rw [if_neg q1, decide_eq_false (fun z => q1 ⟨by omega, z.2.1⟩)]; rfl
    · obtain ⟨nf, rfl⟩ : ∃ e, nf = e + 1 := ⟨nf - 1, by omega⟩
      obtain ⟨m2, d1, d2, d3, d4⟩ := hM nf m (by omega) hT h hZ hV
      have hZ2 := GZ_P hZ d4
      refine ⟨m2, ?_, d2, fun hok => ?_, d4⟩
      · rw [d1]
        by_cases q1 : o = 1 ∧ A' (12 + c) % S 1 = 0 ∧ bx B K e < 0
        · rw [if_pos q1, hMend nf m2 (by omega) hZ2]
          simp only [Option.bind_some]
          unfold mtl mo_size
          simp only [Option.bind_some]
          rw [hZ2.1, hZ2.2.1, pk_mul]
          by_cases q3 : all' = S 1 * S 2
          · rw [if_pos (by rw [q3]), decide_eq_true ⟨q1.1, q1.2.1, q1.2.2, q3⟩]; rfl
          · rw [if_neg (by rw [nI_eq (by omega) (by omega)]; exact q3), decide_eq_false (fun z => q3 z.2.2.2)]; rfl
        · rw [if_neg q1, decide_eq_false (fun z => q1 ⟨z.1, z.2.1, z.2.2.1⟩)]; rfl
      · have hok := of_decide_eq_true hok
        have hU := d3 hok.1
        exact ⟨fun d hd => hU.1 d (by omega), fun d i hd hi => hU.2 d i (by omega) hi⟩
  | succ r ih =>
    intro c a all u M A hcr hI hall hz ha hwh
    have hc : c < S 1 := by omega
    obtain ⟨o, e, all', u', M', A', b1, b2, b3, b4, b5, b6, b7⟩ := T_heap hB wg hc (S 1 * S 2 - all) a all u M A (by omega) hI ha
    have hAc : A (12 + c) = 0 := hz c (by omega) (Nat.le_refl c)
    rw [hAc] at b6
    have hA'c : A' (12 + c) ≤ all' := IV_sz b2 hc
    have hm1 : nI (S 1) - 1 = nI (S 1 - 1) := pk_sub (b := 1) (by omega)
    have hM : ∀ nf m, 300 < nf → TM B K m → m.1 115 3 = nI a → GZ S m → MV A c m → ∃ m2, mo_readTable_l19 (nf + 1) (nI (bd (S 3) M)) (nI all) (nI u) (nI c) m = (if o = 1 ∧ A' (12 + c) % S 1 = 0 ∧ ¬ bx B K e < 0 then mo_readTable_l19 nf (nI (bd (S 3) M')) (nI all') (nI u') (nI (c + 1)) (rm_i m2 115 3 (nI (e + 1))) else some (.inl (0, m2))) ∧ m2.1 115 3 = nI e ∧ (o = 1 → MU A' c m2) ∧ Kq Pmt m m2 := by
      intro nf m hnf hT h hZ hV
      have k1 : Kq Pmt m (rm_i (rm_i m 118 c 0) 115 3 (nI (nx B K a))) := (Kq.rf.sti (Or.inl rfl)).sti (Or.inr ⟨rfl, rfl⟩)
      obtain ⟨m2, d1, d2, d3, d4⟩ := b7 nf (rm_i (rm_i m 118 c 0) 115 3 (nI (nx B K a))) (by omega) (TM_P hT k1) g115 (GZ_P hZ k1) (by
        refine MU_a ⟨fun d hd => ?_, fun d i hd hi => ?_⟩ _
        · rw [mi_get]
          by_cases q : d = c
          · rw [if_pos ⟨rfl, q⟩, q, hAc]; rfl
          · rw [if_neg (fun z => q z.2)]; exact hV.1 d (by omega)
        · by_cases q : d = c
          · rw [q, hAc] at hi; omega
          · rw [mi_get, if_neg (by omega)]; exact hV.2 d i (by omega) hi)
      have hnb := m_next hB ha (show 100 < nf by omega) (m := rm_i m 118 c 0) (TM_k hT (by omega) (by omega)) (by rw [g118]; exact h)
      have hZ2 := GZ_P hZ (k1.tr d4)
      have hhead : mo_readTable_l19 (nf + 1) (nI (bd (S 3) M)) (nI all) (nI u) (nI c) m = (mo_readTable_l44 (nI c) nf (nI (bd (S 3) M)) (nI all) (nI u) (bx B K a) (rm_i (rm_i m 118 c 0) 115 3 (nI (nx B K a)))).bind fun q => match q with
          | .inl o => some (.inl o)
          | .inr (x53, x54, x55, x56, m52) => (if nI c = ((m52.1 116 1) - 1) then some (1 : Int32) else some 0).bind fun x60 => if rn_in (nI c) 64 = true then if ¬ (m52.1 116 1) = 0 then if (rn_rem (m52.1 118 (nI c).toNatClampNeg) (m52.1 116 1)) = 0 then (if x56 < 0 then some (1 : Int32) else some 0).bind fun x66 => if x60 = x66 then (if x60 = 0 then some (1 : Int32) else some 0).bind fun x71 => mo_readTable_l19 nf x53 x54 x55 (nI c + 1) (rm_i m52 115 3 ((m52.1 115 3) + x71)) else some (.inl (0, m52)) else some (.inl (0, m52)) else none else none := by
        rw [mo_readTable_l19, hZ.1, if_pos (by rw [nI_ltI (by omega) (by omega)]; exact hc), if_pos ((in_n (by omega)).mpr (by omega)), nI_n (by omega)]
        simp only [Option.bind_some]
        rw [hnb]
        rfl
      refine ⟨m2, ?_, d2, d3, k1.tr d4⟩
      rw [hhead, d1]
      by_cases qo : o = 1
      · rw [if_pos qo]
        simp only [Option.bind_some]
        rw [hZ2.1, hm1, if_neg (by rw [nI_eq (by omega) (by omega)]; omega)]
        simp only [Option.bind_some]
        rw [if_pos ((in_n (by omega)).mpr (by omega)), if_pos (show ¬ nI (S 1) = 0 from nI_ne0 (by omega) (by omega)), nI_n (by omega), (d3 qo).1 c (Nat.le_refl c), rem_n (by omega) (by omega) (by omega)]
        by_cases qw : A' (12 + c) % S 1 = 0
        · rw [if_pos (by rw [qw]; rfl)]
          by_cases qe : bx B K e < 0
          · rw [if_pos qe]
            simp only [Option.bind_some]
            rw [if_neg (show ¬ (0 : Int32) = 1 by decide), if_neg (fun z => z.2.2 qe)]
          · rw [if_neg qe]
            simp only [Option.bind_some, if_true]
            rw [if_pos ⟨qo, qw, qe⟩, d2, nI_1, nI_1]
        · have := Nat.mod_lt (A' (12 + c)) (show S 1 > 0 by omega)
          rw [if_neg (nI_ne0 (by omega) (by omega)), if_neg (fun z => qw z.2.1)]
      · rw [if_neg qo, if_neg (fun z => qo z.1)]
        rfl
    have hCl : ∀ nf m, 300 < nf → TC B K m → m.1 1 2 = nI a → GC S m → CT S A all u M m → ∃ m2, (tp_readHeap (nf + 1) 37 4 (nI c) m).bind (cgo (nf + 1) c) = (if o ≠ 0 ∧ A' (12 + c) % S 1 = 0 then (tp_take nf 59 m2).bind fun p => if p.1 = 0 then some (.inl (0, p.2)) else (tp_readHeap nf 37 4 (nI (c + 1)) p.2).bind (cgo nf (c + 1)) else some (.inl (0, m2))) ∧ m2.1 1 2 = nI e ∧ (o ≠ 0 → CT S A' all' u' M' m2) ∧ Kq Pct m m2 := by
      intro nf m hnf hT h hG hCT
      obtain ⟨m2, d1, d2, d3, d4⟩ := b6 (nf + 1) m (by omega) hT h hG hCT
      have hG2 := GC_P hG d4
      refine ⟨m2, ?_, d2, d3, d4⟩
      unfold tp_readHeap
      rw [show tp_readHeap_l3 37 4 (nI c) (nf + 1) 0 m = _ from d1]
      by_cases qo : o = 0
      · rw [if_pos qo, if_neg (fun z => z.1 qo)]
        rfl
      · rw [if_neg qo]
        simp only [Option.bind_some]
        unfold ta_whole
        have hle : A' (12 + c) / S 1 * S 1 ≤ A' (12 + c) := Nat.div_mul_le_self _ _
        rw [if_pos ((in_n (by omega)).mpr (by omega)), if_pos ((in_n (by omega)).mpr (by omega)), nI_n (by omega), ((d3 qo).2.2.2.2.1 c (by omega)).1, ((d3 qo).2.2.2.2.1 c (by omega)).2, hG2.1, pk_mul]
        by_cases qw : A' (12 + c) % S 1 = 0
        · rw [if_pos (by rw [nI_eq (by omega) (by omega)]; exact (whole_iff (by omega)).mpr qw), if_pos ⟨qo, qw⟩]
          simp only [Option.bind_some]
          rw [if_pos (by decide)]
          simp only [Option.bind_some]
          unfold cgo
          rw [if_neg (show ¬ (1 : Int32) = 0 by decide)]
          rw [l6_next (n := S 1) (by omega) w2 hG2.1]
          rfl
        · rw [if_neg (by rw [nI_eq (by omega) (by omega)]; exact fun z => qw ((whole_iff (by omega)).mp z)), if_neg (fun z => qw z.2)]
          rfl
    -- it goes on only behind a ';'
    have bad : ¬ (o = 1 ∧ A' (12 + c) % S 1 = 0 ∧ ¬ bx B K e < 0) → ∃ (ok : Bool) (e all' u' M' : Nat) (A' : Nat → Nat), e ≤ K ∧ (ok = true → IV S A' all' u' M' ∧ all' = S 1 * S 2 ∧ ∀ d, d < S 1 → A' (12 + d) = A' (12 + d) / S 1 * S 1) ∧ (∀ nf N m, (r + 1) + 301 < nf → 200 < N → TC B K m → m.1 1 2 = nI a → GC S m → CT S A all u M m → ∃ m2, ((tp_readHeap nf 37 4 (nI c) m).bind (cgo nf c)).bind (ctl N) = some (o01 ok, m2) ∧ m2.1 1 2 = nI e ∧ (ok = true → CT S A' all' u' M' m2) ∧ Kq Pct m m2) ∧ (∀ nf N m, (r + 1) + 301 < nf → 200 < N → TM B K m → m.1 115 3 = nI a → GZ S m → MV A c m → ∃ m2, (mo_readTable_l19 nf (nI (bd (S 3) M)) (nI all) (nI u) (nI c) m).bind (mtl N) = some (o01 ok, m2) ∧ m2.1 115 3 = nI e ∧ (ok = true → MV A' (S 1) m2) ∧ Kq Pmt m m2) := by
      intro hbad
      refine ⟨false, e, 0, 0, 0, A, b1, fun z => (by cases z), fun nf N m hnf hN hT h hG hCT => ?_, fun nf N m hnf hN hT h hZ hV => ?_⟩
      · obtain ⟨nf, rfl⟩ : ∃ e, nf = e + 1 := ⟨nf - 1, by omega⟩
        obtain ⟨m2, d1, d2, d3, d4⟩ := hCl nf m (by omega) hT h hG hCT
        refine ⟨m2, ?_, d2, fun z => (by cases z), d4⟩
        rw [d1]
        by_cases q1 : o ≠ 0 ∧ A' (12 + c) % S 1 = 0
        · rw [if_pos q1]
          have hne : nx B K e = e ∧ ¬ bx B K e = 59 := by
            rcases b5 with z | ⟨z1, z2, z3⟩ | ⟨_, z, _, z3⟩
            · exact absurd z q1.1
            · refine ⟨z2, fun z4 => hbad ⟨z1, q1.2, by rw [z4]; decide⟩⟩
            · exact ⟨z, z3⟩
          have : tp_take nf 59 m2 = some (0, m2) := by
            unfold tp_take
            rw [c_peek hB b1 (by omega) (TC_P hT d4) d2, hne.1, mi_id m2 1 2 (nI e) d2]
            simp only [Option.bind_some]
            rw [if_neg hne.2]
          rw [this]
          rfl
        · rw [if_neg q1]; rfl
      · obtain ⟨nf, rfl⟩ : ∃ e, nf = e + 1 := ⟨nf - 1, by omega⟩
        obtain ⟨m2, d1, d2, d3, d4⟩ := hM nf m (by omega) hT h hZ hV
        refine ⟨m2, ?_, d2, fun z => (by cases z), d4⟩
        rw [d1, if_neg hbad]
        rfl
    by_cases hgood : o = 1 ∧ A' (12 + c) % S 1 = 0 ∧ ¬ bx B K e < 0
    case neg => exact bad hgood
    obtain ⟨ho, hw0, hb0⟩ := hgood
    have h59 : nx B K e = e ∧ bx B K e = 59 := by
      rcases b5 with z | ⟨z1, z2, z3⟩ | ⟨z, _⟩
      · omega
      · exact ⟨z2, z3.elim (fun y => absurd y hb0) id⟩
      · omega
    have hlt : e < K := by
      have := bx_c hB b1
      rw [h59.1, h59.2] at this
      rcases this with ⟨_, h⟩ | ⟨h, _⟩
      · exact absurd h (by decide)
      · exact h
    obtain ⟨ok, e2, all2, u2, M2, A2, x1, x2, x3, x4⟩ := ih (c + 1) (e + 1) all' u' M' A' (by omega) b2 b3 (fun d hd hd2 => by rw [b4 d hd (by omega)]; exact hz d hd (by omega)) (by omega) (fun d hd => by
      by_cases q : d = c
      · rw [q]; exact (whole_iff (by omega)).mpr hw0
      · rw [b4 d (by omega) q]; exact hwh d (by omega))
    refine ⟨ok, e2, all2, u2, M2, A2, x1, x2, fun nf N m hnf hN hT h hG hCT => ?_, fun nf N m hnf hN hT h hZ hV => ?_⟩
    · obtain ⟨nf, rfl⟩ : ∃ e, nf = e + 1 := ⟨nf - 1, by omega⟩
      obtain ⟨m2, d1, d2, d3, d4⟩ := hCl nf m (by omega) hT h hG hCT
      have hT2 := TC_P hT d4
      have k3 : Kq Pct m (rm_i m2 1 2 (nI (e + 1))) := d4.sti (Or.inr ⟨rfl, rfl⟩)
      obtain ⟨m3, f1, f2, f3, f4⟩ := x3 nf N (rm_i m2 1 2 (nI (e + 1))) (by omega) hN (TC_P hT k3) g12 (GC_P hG k3) (CT_a (d3 (by omega)) _)
      refine ⟨m3, ?_, f2, f3, k3.tr f4⟩
      have : tp_take nf 59 m2 = some (1, rm_i m2 1 2 (nI (e + 1))) := by
        unfold tp_take
        rw [c_peek hB b1 (by omega) hT2 d2, h59.1, mi_id m2 1 2 (nI e) d2]
        simp only [Option.bind_some]
        rw [if_pos h59.2, d2, nI_1]
      rw [d1, if_pos ⟨by omega, hw0⟩, this]
      simp only [Option.bind_some]
      rw [if_neg (show ¬ (1 : Int32) = 0 by decide)]
      exact f1
    · obtain ⟨nf, rfl⟩ : ∃ e, nf = e + 1 := ⟨nf - 1, by omega⟩
      obtain ⟨m2, d1, d2, d3, d4⟩ := hM nf m (by omega) hT h hZ hV
      have k3 : Kq Pmt m (rm_i m2 115 3 (nI (e + 1))) := d4.sti (Or.inr ⟨rfl, rfl⟩)
      have hU := d3 ho
      obtain ⟨m3, f1, f2, f3, f4⟩ := x4 nf N (rm_i m2 115 3 (nI (e + 1))) (by omega) hN (TM_P hT k3) g115 (GZ_P hZ k3) ⟨fun d hd => by rw [mi_get, if_neg (by omega)]; exact hU.1 d (by omega), fun d i hd hi => by rw [mi_get, if_neg (by omega)]; exact hU.2 d i (by omega) hi⟩
      refine ⟨m3, ?_, f2, f3, k3.tr f4⟩
      rw [d1, if_pos ⟨ho, hw0, hb0⟩]
      exact f1
