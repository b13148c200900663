/-! KNOWS: the two counts -/
theorem deals_l32_sp {n H card r nf0 : Nat} {lk : Nat → Nat} (hn4 : n ≤ 4) (hcard : card < 16) (hlk : ∀ c, c < n → lk c < 16) (R : Nat → Nat) (hR : ∀ c, c < n → R c < 100) (l : List Nat) (m : rn_Mem) (h1 : m.1 4 1 = nI n) (hr : ∀ c, c < n → m.1 104 c = nI (R c)) (hl : ∀ c, c < n → m.1 105 c = nI (lk c)) (hrec : ∀ (R' : Nat → Nat) (m' : rn_Mem), (∀ c, c < n → R' c < 100) → m'.1 4 1 = nI n → (∀ c, c < n → m'.1 104 c = nI (R' c)) → (∀ c, c < n → m'.1 105 c = nI (lk c)) → ju_deals nf0 r 4 (nI H) (nI (card + 1)) m' = some (nI (dl n lk l R'), m')) : ∀ (s c nf : Nat), c + s = n → s < nf → ju_deals_l32 (ju_deals nf0 r) 4 (nI H) (nI card) nf (nI (fb_sm (fun c => if 0 < R c ∧ (lk c).testBit (card / 4) = false then dl n lk l (fun d => if d = c then R d - 1 else R d) else 0) c)) (nI c) m = some (nI (dl n lk (card :: l) R), m) := by
  intro s
  induction s with
  | zero =>
    intro c nf e hnf
    obtain ⟨nf, rfl⟩ : ∃ e, nf = e + 1 := ⟨nf - 1, by omega⟩
    obtain rfl : c = n := by omega
    unfold ju_deals_l32
    rw [h1, if_neg (by rw [nI_ltI (by omega) (by omega)]; omega)]
    rfl
  | succ s ih =>
    intro c nf e hnf
    obtain ⟨nf, rfl⟩ : ∃ e, nf = e + 1 := ⟨nf - 1, by omega⟩
    have h := ih (c + 1) nf (by omega) (by omega)
    have hRc := hR c (by omega)
    have hlc := hlk c (by omega)
    have hin : rn_in (nI c) 4 = true := (in_n (by omega)).mpr (by omega)
    rw [fb_sm_succ] at h
    unfold ju_deals_l32
    rw [h1, if_pos (by rw [nI_ltI (by omega) (by omega)]; omega), if_pos hin, nI_n (by omega), hr c (by omega), hl c (by omega), shr_2 (by omega)]
    simp only [bit_0 (show lk c < 2 ^ 31 by omega) (show card / 4 < 32 by omega), if_pos hin, nI_1]
    by_cases q1 : 0 < R c
    · rw [if_pos (by rw [k0, nI_ltI (by omega) (by omega)]; exact q1)]
      by_cases q2 : (lk c).testBit (card / 4) = false
      · rw [if_pos q2]
        rw [if_pos ⟨q1, q2⟩] at h
        have kq : ∀ q, q ≠ 104 → (rm_i m 104 c (nI (R c) - 1)).1 q = m.1 q := by
          intro q hq
          funext j
          rw [mi_get, if_neg (fun z => hq z.1)]
        have rc := hrec (fun d => if d = c then R d - 1 else R d) (rm_i m 104 c (nI (R c) - 1)) (by
          intro d hd
          have := hR d hd
          show (if d = c then R d - 1 else R d) < 100
          split <;> omega) (by rw [kq 4 (by omega)]; exact h1) (by
          intro d hd
          rw [mi_get]
          by_cases z : d = c
          · rw [if_pos ⟨rfl, z⟩]
            simp only [if_pos z]
            rw [z]
            exact pk_sub (a := R c) (b := 1) q1
          · rw [if_neg (fun y => z y.2)]
            simp only [if_neg z]
            exact hr d hd) (by rw [kq 105 (by omega)]; exact hl)
        simp only [Option.bind_some]
        rw [rc]
        simp only [Option.bind_some]
        rw [mi_get, if_pos ⟨rfl, rfl⟩, mi_mi, mi_id m 104 c _ (by rw [hr c (by omega)]; rw [show nI (R c) - 1 = nI (R c - 1) from pk_sub (b := 1) q1, nI_1, show R c - 1 + 1 = R c by omega]), nI_add]
        exact h
      · rw [if_neg q2]
        rw [if_neg (fun z => q2 z.2), Nat.add_zero] at h
        simp only [Option.bind_some]
        exact h
    · rw [if_neg (by rw [k0, nI_ltI (by omega) (by omega)]; exact q1)]
      rw [if_neg (fun z => q1 z.1), Nat.add_zero] at h
      simp only [Option.bind_some]
      exact h
theorem deals_sp {n H nf : Nat} {lk : Nat → Nat} (hnf : 10 < nf) (hn4 : n ≤ 4) (hH : H < 65536) (hlk : ∀ c, c < n → lk c < 16) : ∀ (r card : Nat), card + r = 16 → ∀ (R : Nat → Nat) (m : rn_Mem), (∀ c, c < n → R c < 100) → m.1 4 1 = nI n → (∀ c, c < n → m.1 104 c = nI (R c)) → (∀ c, c < n → m.1 105 c = nI (lk c)) → ju_deals nf (r + 1) 4 (nI H) (nI card) m = some (nI (dl n lk (bl H r card) R), m) := by
  intro r
  induction r with
  | zero =>
    intro card hc R m hR h1 hr hl
    obtain rfl : card = 16 := by omega
    show ju_deals_1 (ju_deals nf 0) nf 4 (nI H) (nI 16) m = _
    unfold ju_deals_1
    rw [if_neg (by decide)]
    rfl
  | succ r ih =>
    intro card hc R m hR h1 hr hl
    show ju_deals_1 (ju_deals nf (r + 1)) nf 4 (nI H) (nI card) m = _
    unfold ju_deals_1
    rw [if_pos (by rw [k16, nI_ltI (by omega) (by omega)]; omega), bl]
    simp only [bit_0 (show H < 2 ^ 31 by omega) (show card < 32 by omega), nI_1]
    by_cases q : H.testBit card = true
    · rw [if_neg (by rw [q]; decide), if_pos q]
      have := deals_l32_sp (nf0 := nf) (r := r + 1) hn4 (show card < 16 by omega) hlk R hR (bl H r (card + 1)) m h1 hr hl (fun R' m' a1 a2 a3 a4 => ih (card + 1) (by omega) R' m' a1 a2 a3 a4) n 0 nf (by omega) (by omega)
      rw [show fb_sm (fun c => if 0 < R c ∧ (lk c).testBit (card / 4) = false then dl n lk (bl H r (card + 1)) (fun d => if d = c then R d - 1 else R d) else 0) 0 = 0 from rfl, show nI 0 = 0 from rfl] at this
      rw [this]
      rfl
    · rw [if_pos (by rw [Bool.not_eq_true] at q; exact q), if_neg q, ih (card + 1) (by omega) R m hR h1 hr hl]
      rfl
def ohm (hd : Nat → Nat) (ch : Nat) : Nat → Nat
  | 0 => 0
  | j + 1 => ohm hd ch j ||| (if j = ch then 0 else hd j)
theorem ohm_bit {hd : Nat → Nat} {ch x : Nat} : ∀ {n : Nat}, (ohm hd ch n).testBit x = true ↔ ∃ j, j < n ∧ j ≠ ch ∧ (hd j).testBit x = true
  | 0 => by
    constructor
    · intro h
      rw [ohm, Nat.zero_testBit] at h
      cases h
    · rintro ⟨j, h, _⟩
      omega
  | n + 1 => by
    rw [ohm, Nat.testBit_or, Bool.or_eq_true, ohm_bit (n := n)]
    constructor
    · rintro (⟨j, h1, h2⟩ | h)
      · exact ⟨j, by omega, h2⟩
      · split at h
        · rw [Nat.zero_testBit] at h
          cases h
        · exact ⟨n, by omega, by assumption, h⟩
    · rintro ⟨j, h1, h2, h3⟩
      by_cases q : j = n
      · subst q
        right
        rw [if_neg h2]
        exact h3
      · exact Or.inl ⟨j, by omega, h2, h3⟩
def Ptk (p : Nat) : Prop := p = 104 ∨ p = 105
theorem thinkable_l19_sp {n t k ch : Nat} {hd : Nat → Nat} (hn4 : n ≤ 4) (hk : k < t) (ht : t ≤ 4) : ∀ (r j nf : Nat) (m : rn_Mem), j + r = n → r < nf → m.1 4 1 = nI n → m.1 4 2 = nI t → ch < 4 → (∀ c, c < n → m.1 103 c = nI (hd c)) → (∀ c, c < j → m.1 104 c = nI (if c = ch then 0 else t - k) ∧ m.1 105 c = 0) → ∃ m2, ju_thinkable_l19 4 14 (nI ch) (nI k) nf (nI (ohm hd ch j)) (nI j) m = some (nI (ohm hd ch n), m2) ∧ (∀ c, c < n → m2.1 104 c = nI (if c = ch then 0 else t - k) ∧ m2.1 105 c = 0) ∧ Kr Ptk m m2 := by
  intro r
  induction r with
  | zero =>
    intro j nf m e hnf h1 h2 hch hh hr
    obtain ⟨nf, rfl⟩ : ∃ e, nf = e + 1 := ⟨nf - 1, by omega⟩
    obtain rfl : j = n := by omega
    refine ⟨m, ?_, hr, Kr.rf⟩
    unfold ju_thinkable_l19
    rw [h1, if_neg (by rw [nI_ltI (by omega) (by omega)]; omega)]
  | succ r ih =>
    intro j nf m e hnf h1 h2 hch hh hr
    obtain ⟨nf, rfl⟩ : ∃ e, nf = e + 1 := ⟨nf - 1, by omega⟩
    have hin : rn_in (nI j) 4 = true := (in_n (by omega)).mpr (by omega)
    have st : ju_thinkable_l19 4 14 (nI ch) (nI k) (nf + 1) (nI (ohm hd ch j)) (nI j) m = ju_thinkable_l19 4 14 (nI ch) (nI k) nf (nI (ohm hd ch (j + 1))) (nI (j + 1)) (rm_i (rm_i m 104 j (nI (if j = ch then 0 else t - k))) 105 j 0) := by
      rw [ju_thinkable_l19, h1, h2, if_pos (by rw [nI_ltI (by omega) (by omega)]; omega)]
      simp only [if_pos hin, nI_n (show j < 2 ^ 31 by omega), hh j (by omega), pk_sub (show k ≤ t by omega), nI_1]
      rw [ohm]
      by_cases q : j = ch
      · simp only [if_pos q, if_pos (show nI j = nI ch by rw [q]), Option.bind_some]
        rw [k0, fa_or]
      · simp only [if_neg q, if_neg (show ¬ nI j = nI ch by rw [nI_eq (by omega) (by omega)]; exact q), Option.bind_some]
        rw [fa_or]
    have ko : ∀ q, ¬ Ptk q → (rm_i (rm_i m 104 j (nI (if j = ch then 0 else t - k))) 105 j 0).1 q = m.1 q := by
      intro q hq
      unfold Ptk at hq
      funext j
      rw [mi_get, if_neg (by omega), mi_get, if_neg (by omega)]
    obtain ⟨m2, b1, b2, b3⟩ := ih (j + 1) nf _ (by omega) (by omega) (by rw [ko 4 (by unfold Ptk; omega)]; exact h1) (by rw [ko 4 (by unfold Ptk; omega)]; exact h2) hch (by rw [ko 103 (by unfold Ptk; omega)]; exact hh) (by
      intro c hc
      by_cases z : c = j
      · subst z
        refine ⟨?_, ?_⟩
        · rw [mi_get, if_neg (by omega), mi_get, if_pos ⟨rfl, rfl⟩]
        · rw [mi_get, if_pos ⟨rfl, rfl⟩]
      · refine ⟨?_, ?_⟩
        · rw [mi_get, if_neg (by omega), mi_get, if_neg (show ¬ (104 = 104 ∧ c = j) from fun y => z y.2)]
          exact (hr c (by omega)).1
        · rw [mi_get, if_neg (show ¬ (105 = 105 ∧ c = j) from fun y => z y.2), mi_get, if_neg (by omega)]
          exact (hr c (by omega)).2)
    refine ⟨m2, by rw [st]; exact b1, b2, Kr.tr ((Kr.rf.sti (p := 104) ?_).sti (p := 105) ?_) b3⟩
    · exact Or.inl rfl
    · exact Or.inr rfl
/-- how many deals a chair can think of at a trick -/
def kn_ans (S : Nat → Nat) (ch k : Nat) : Nat := dl (S 1) (fun c => lka (S 1) (S 5) (S 4) (Sp S) (fun i => S (89 + i)) c (S 1 * k)) (ul (Sp S) (fun i => S (89 + i)) ch (S 1 * S 2 - S 1 * k) (S 1 * k)) (fun c => if c = ch then 0 else S 2 - k)
def Pju (p : Nat) : Prop := p = 103 ∨ p = 104 ∨ p = 105
theorem Sp_lt {S : Nat → Nat} {i : Nat} (h : 2 ≤ S 1) : Sp S i < S 1 := rpa_lt (by omega)
theorem thinkable_sp {S V : Nat → Nat} {m : rn_Mem} {ch k nf : Nat} (hnf : 100 < nf) (hw : WF S) (hc : cSt S V 3 m) (h11 : S 11 = 1) (hch : ch < S 1) (hk : k < S 2) : ∃ m2, ju_thinkable nf 4 14 (nI ch) (nI k) m = some (nI (kn_ans S ch k), m2) ∧ Kr Pju m m2 := by
  obtain ⟨h1, h2, h3, h4, h5, h6, h7, h8⟩ := WF_row hw h11
  obtain ⟨wg, wt, wc, wr⟩ := WF_1 hw (S11_1 hw h11)
  obtain ⟨e1, e2, e3, e4, e5, e6, e7, e8⟩ := hc.1.2 (S11_1 hw h11)
  obtain ⟨f1, f2, f3⟩ := hc.2.2.2.2 h11
  have hfo : S 5 ≤ 2 := wg.2.2.2.2.2.2.2.1
  have hinj := (wr.2 h11).2.2
  have hkn := kn (n := S 1) hk
  obtain ⟨m1, a1, a2, a3⟩ := deal_sp (q1 := 4) (q2 := 14) (n := S 1) (t := S 2) (i := S 1 * k) (nf := nf) (p := Sp S) (f := fun i => S (89 + i)) (m := m) (by omega) h5 (by omega) (by omega) (fun i hi => by have := Sp_lt (S := S) (i := i) h1; omega) h8 e1 e2 (fun i hi => ⟨(f2 i hi).1, (f2 i hi).2.1⟩)
  have k4 : m1.1 4 = m.1 4 := (a3 4 (by omega)).1
  obtain ⟨m2, b1, b2, b3⟩ := thinkable_l19_sp (n := S 1) (t := S 2) (k := k) (ch := ch) (hd := fun c => hdm (Sp S) (fun i => S (89 + i)) c (S 1 * S 2 - S 1 * k) (S 1 * k)) h2 hk h4 (S 1) 0 nf m1 (by omega) (by omega) (by rw [k4]; exact e1) (by rw [k4]; exact e2) (by omega) (fun c hc => a2 c (by omega)) (by intro c hc; omega)
  rw [show nI (ohm (fun c => hdm (Sp S) (fun i => S (89 + i)) c (S 1 * S 2 - S 1 * k) (S 1 * k)) ch 0) = 0 from rfl, show nI 0 = 0 from rfl] at b1
  have hH : ohm (fun c => hdm (Sp S) (fun i => S (89 + i)) c (S 1 * S 2 - S 1 * k) (S 1 * k)) ch (S 1) = hnm (Sp S) (fun i => S (89 + i)) ch (S 1 * S 2 - S 1 * k) (S 1 * k) := by
    apply Nat.eq_of_testBit_eq
    intro x
    apply Bool.eq_iff_iff.mpr
    rw [ohm_bit, hnm_bit]
    constructor
    · rintro ⟨j, q1, q2, q3⟩
      obtain ⟨i, p1, p2, p3, p4⟩ := hdm_bit.mp q3
      exact ⟨i, p1, p2, by rw [p3]; exact q2, p4⟩
    · rintro ⟨i, p1, p2, p3, p4⟩
      exact ⟨Sp S i, Sp_lt h1, p3, hdm_bit.mpr ⟨i, p1, p2, rfl, p4⟩⟩
  have hHl : hnm (Sp S) (fun i => S (89 + i)) ch (S 1 * S 2 - S 1 * k) (S 1 * k) < 65536 := by
    refine Nat.lt_pow_two_of_testBit _ (n := 16) fun x hx => ?_
    cases z : (hnm (Sp S) (fun i => S (89 + i)) ch (S 1 * S 2 - S 1 * k) (S 1 * k)).testBit x with
    | false => rfl
    | true =>
      obtain ⟨i, p1, p2, p3, p4⟩ := hnm_bit.mp z
      have : S (89 + i) < 16 := h8 i (by omega)
      have p4 : S (89 + i) = x := p4
      omega
  have k4b : m2.1 4 = m.1 4 := by rw [(b3 4 (by unfold Ptk; omega)).1, k4]
  have k15 : ∀ q, 14 ≤ q → q ≤ 18 → m2.1 q = m.1 q := fun q p1 p2 => by rw [(b3 q (by unfold Ptk; omega)).1, (a3 q (by omega)).1]
  have hlk : ∀ c, lka (S 1) (S 5) (S 4) (Sp S) (fun i => S (89 + i)) c (S 1 * k) < 16 := fun c => lka_lt fun j hj => h8 _ (by have := Nat.div_add_mod j (S 1); omega)
  obtain ⟨m3, c1, c2, c3⟩ : ∃ m3, (if nI (S 5) = 1 then some m2 else (ju_noteLacks nf 4 14 (nI k) m2).bind fun m23 => some m23) = some m3 ∧ (∀ c, c < S 1 → m3.1 105 c = nI (lka (S 1) (S 5) (S 4) (Sp S) (fun i => S (89 + i)) c (S 1 * k))) ∧ Kr (fun p => p = 105) m2 m3 := by
    by_cases q : S 5 = 1
    · refine ⟨m2, by rw [if_pos (by rw [q]; rfl)], fun c hc => ?_, Kr.rf⟩
      rw [(b2 c hc).2, q, lka_1]
      rfl
    · obtain ⟨m3, c1, c2, c3⟩ := noteLacks_l3_sp (n := S 1) (t := S 2) (fo := S 5) (tr := S 4) (k := k) (p := Sp S) (f := fun i => S (89 + i)) h1 h2 h5 hk hfo q h8 (fun i hi => by have := Sp_lt (S := S) (i := i) h1; omega) (S 1 * k) 0 nf m2 (by omega) (by omega) (by rw [k4b]; exact e1) (by rw [k4b]; exact e4) (by rw [k4b]; exact e5) (by
        intro i hi
        rw [k15 15 (by omega) (by omega), k15 16 (by omega) (by omega)]
        exact ⟨(f2 i hi).1, (f2 i hi).2.1⟩) (fun c hc => (b2 c hc).2) (fun i _ => Sp_lt h1)
      refine ⟨m3, ?_, c2, c3⟩
      rw [if_neg (by rw [k1, nI_eq (by omega) (by omega)]; exact q)]
      unfold ju_noteLacks
      rw [k0, c1]
      rfl
  have d := deals_sp (n := S 1) (H := hnm (Sp S) (fun i => S (89 + i)) ch (S 1 * S 2 - S 1 * k) (S 1 * k)) (nf := nf) (lk := fun c => lka (S 1) (S 5) (S 4) (Sp S) (fun i => S (89 + i)) c (S 1 * k)) (by omega) h2 hHl (fun c _ => hlk c) 16 0 (by omega) (fun c => if c = ch then 0 else S 2 - k) m3 (by
    intro c hc
    show (if c = ch then 0 else S 2 - k) < 100
    split <;> omega) (by rw [(c3 4 (by omega)).1, k4b]; exact e1) (by rw [(c3 104 (by omega)).1]; exact fun c hc => (b2 c hc).1) c2
  refine ⟨m3, ?_, ((a3.mono fun p hp => ?_).tr (b3.mono fun p hp => ?_)).tr (c3.mono fun p hp => ?_)⟩
  · unfold ju_thinkable
    rw [show m.1 4 1 = _ from e1, pk_mul, Nat.mul_comm k (S 1), a1]
    simp only [Option.bind_some]
    rw [b1]
    simp only [Option.bind_some]
    rw [k4b, show m.1 4 5 = _ from e5, c1]
    simp only [Option.bind_some]
    rw [hH, k0, d]
    simp only [Option.bind_some]
    congr 3
    unfold kn_ans
    exact (dl_ul h8 hinj _ _ (by omega) _).symm
  · exact Or.inl hp
  · exact Or.inr hp
  · exact Or.inr (Or.inr hp)
/-! the reference's -/
theorem knows_l80_sp {n t tr ls b ch : Nat} {f : Nat → Nat} {a2 : Int32} (hn : 2 ≤ n) (hn4 : n ≤ 4) (ht : t ≤ 4) (hs : n * t ≤ 12) (hb : b < n) (hch : ch < n) : ∀ (r i nf : Nat) (A : List Nat) (m : rn_Mem), i + r = n * t → r < nf → A.length + r ≤ 12 → m.1 116 1 = nI n → m.1 116 2 = nI t → (∀ j, j < t → m.1 139 j = nI (rl n tr ls b f j)) → (∀ i, i < n * t → m.1 141 i = nI (f i)) → (∀ j x, A[j]? = some x → m.1 147 j = nI x) → ∃ m2, mo_knows_l80 (nI ch) a2 nf (nI A.length) (nI i) m = some (nI (A ++ ul (rpa n tr ls b f) f ch r i).length, m2) ∧ (∀ j x, (A ++ ul (rpa n tr ls b f) f ch r i)[j]? = some x → m2.1 147 j = nI x) ∧ Kr (fun p => p = 147) m m2 := by
  intro r
  induction r with
  | zero =>
    intro i nf A m e hnf hA h1 h2 hL hc hu
    obtain ⟨nf, rfl⟩ : ∃ e, nf = e + 1 := ⟨nf - 1, by omega⟩
    refine ⟨m, ?_, ?_, Kr.rf⟩
    · unfold mo_knows_l80 mo_size
      simp only [Option.bind_some]
      rw [h1, h2, pk_mul, if_neg (by rw [nI_ltI (by omega) (by omega)]; omega), ul, List.append_nil]
    · rw [ul, List.append_nil]
      exact hu
  | succ r ih =>
    intro i nf A m e hnf hA h1 h2 hL hc hu
    obtain ⟨nf, rfl⟩ : ∃ e, nf = e + 1 := ⟨nf - 1, by omega⟩
    have hik : i / n < t := by rw [Nat.div_lt_iff_lt_mul (by omega), Nat.mul_comm]; omega
    have hpi := rpa_lt (tr := tr) (ls := ls) (b := b) (k := i) (f := f) (show 0 < n by omega)
    have hplay := playerAt_sp (nf := nf) (i := i) (m := m) hn hn4 hb (by omega) (by omega) h1 (hL _ hik)
    by_cases q : rpa n tr ls b f i = ch
    · obtain ⟨m2, b1, b2, b3⟩ := ih (i + 1) nf A m (by omega) (by omega) (by omega) h1 h2 hL hc hu
      refine ⟨m2, ?_, by rw [ul, if_pos q]; exact b2, b3⟩
      rw [ul, if_pos q, ← b1]
      rw [mo_knows_l80]
      unfold mo_size
      simp only [Option.bind_some]
      rw [h1, h2, pk_mul, if_pos (by rw [nI_ltI (by omega) (by omega)]; omega), hplay]
      simp only [Option.bind_some]
      rw [if_pos (by rw [q])]
      simp only [Option.bind_some, nI_1]
    · have hlen : (A ++ [f i]).length = A.length + 1 := by rw [List.length_append]; rfl
      obtain ⟨m2, b1, b2, b3⟩ := ih (i + 1) nf (A ++ [f i]) (rm_i m 147 A.length (nI (f i))) (by omega) (by omega) (by omega) (by rw [mi_get, if_neg (by omega)]; exact h1) (by rw [mi_get, if_neg (by omega)]; exact h2) (by
        intro j hj
        rw [mi_get, if_neg (by omega)]
        exact hL j hj) (by
        intro j hj
        rw [mi_get, if_neg (by omega)]
        exact hc j hj) (by
        intro j x hx
        rw [mi_get]
        by_cases z : j = A.length
        · rw [if_pos ⟨rfl, z⟩]
          rw [z, List.getElem?_append_right (by omega), Nat.sub_self] at hx
          cases hx
          rfl
        · rw [if_neg (fun y => z y.2)]
          by_cases z2 : j < A.length
          · rw [List.getElem?_append_left z2] at hx
            exact hu j x hx
          · rw [List.getElem?_eq_none (by omega)] at hx
            cases hx)
      have hap : A ++ [f i] ++ ul (rpa n tr ls b f) f ch r (i + 1) = A ++ ul (rpa n tr ls b f) f ch (r + 1) i := by
        rw [ul, if_neg q, List.append_assoc]
        rfl
      rw [hap, hlen] at b1
      rw [hap] at b2
      refine ⟨m2, ?_, b2, Kr.tr (Kr.rf.sti (by exact rfl)) b3⟩
      rw [← b1, mo_knows_l80]
      unfold mo_size
      simp only [Option.bind_some]
      rw [h1, h2, pk_mul, if_pos (by rw [nI_ltI (by omega) (by omega)]; omega), hplay]
      simp only [Option.bind_some]
      rw [if_neg (by rw [nI_eq (by omega) (by omega)]; exact q), if_pos ((in_n (by omega)).mpr (by omega)), if_pos ((in_n (by omega)).mpr (by omega)), nI_n (by omega), nI_n (by omega), hc i (by omega)]
      simp only [Option.bind_some, nI_1]
theorem knows_l127_sp {n mn : Nat} {a1 a2 : Int32} {m : rn_Mem} (hn : 2 ≤ n) (h1 : m.1 116 1 = nI n) (hmn : mn ≤ 12) : ∀ (r i nf : Nat), i + r = mn → r < nf → mo_knows_l127 a1 a2 (nI mn) nf (nI ((n - 1) ^ i)) (nI i) m = some (nI ((n - 1) ^ mn), m) := by
  intro r
  induction r with
  | zero =>
    intro i nf e hnf
    obtain ⟨nf, rfl⟩ : ∃ e, nf = e + 1 := ⟨nf - 1, by omega⟩
    obtain rfl : i = mn := by omega
    unfold mo_knows_l127
    rw [if_neg (by rw [nI_ltI (by omega) (by omega)]; omega)]
  | succ r ih =>
    intro i nf e hnf
    obtain ⟨nf, rfl⟩ : ∃ e, nf = e + 1 := ⟨nf - 1, by omega⟩
    unfold mo_knows_l127
    rw [if_pos (by rw [nI_ltI (by omega) (by omega)]; omega), h1, show nI n - 1 = nI (n - 1) from pk_sub (b := 1) (by omega), pk_mul, ← Nat.pow_succ]
    simp only [Option.bind_some, nI_1]
    exact ih (i + 1) nf (by omega) (by omega)
theorem isDeal_l10_sp {n : Nat} {a1 a2 a3 a5 a6 : Int32} (hn4 : n ≤ 4) : ∀ (r k nf : Nat) (m : rn_Mem), k + r = n → r < nf → m.1 116 1 = nI n → (∀ i, i < k → m.1 148 i = 0) → ∃ m2, mo_isDeal_l10 a1 a2 a3 a5 a6 nf (nI k) m = some m2 ∧ (∀ i, i < n → m2.1 148 i = 0) ∧ Kr (fun p => p = 148) m m2 := by
  intro r
  induction r with
  | zero =>
    intro k nf m e hnf h1 h
    obtain ⟨nf, rfl⟩ : ∃ e, nf = e + 1 := ⟨nf - 1, by omega⟩
    obtain rfl : k = n := by omega
    refine ⟨m, ?_, h, Kr.rf⟩
    unfold mo_isDeal_l10
    rw [h1, if_neg (by rw [nI_ltI (by omega) (by omega)]; omega)]
  | succ r ih =>
    intro k nf m e hnf h1 h
    obtain ⟨nf, rfl⟩ : ∃ e, nf = e + 1 := ⟨nf - 1, by omega⟩
    obtain ⟨m2, b1, b2, b3⟩ := ih (k + 1) nf (rm_i m 148 k 0) (by omega) (by omega) (by rw [mi_get, if_neg (by omega)]; exact h1) (by
      intro i hi
      rw [mi_get]
      by_cases g : i = k
      · rw [if_pos ⟨rfl, g⟩]
      · rw [if_neg (fun z => g z.2)]
        exact h i (by omega))
    refine ⟨m2, ?_, b2, Kr.tr (Kr.rf.sti (by exact rfl)) b3⟩
    unfold mo_isDeal_l10
    rw [h1, if_pos (by rw [nI_ltI (by omega) (by omega)]; omega), if_pos ((in_n (by omega)).mpr (by omega)), nI_n (by omega), nI_1]
    exact b1
theorem isDeal_l38_0 {a1 a2 a3 a5 a7 : Int32} {m : rn_Mem} {nf : Nat} : mo_isDeal_l38 a1 a2 a3 (nf + 1) a5 0 a7 m = some (0, m) := by
  unfold mo_isDeal_l38
  by_cases q : a7 < a3
  · rw [if_pos q, if_pos rfl]
  · rw [if_neg q]
theorem isDeal_l38_sp {n t k ch : Nat} {lk : Nat → Nat} (hn : 2 ≤ n) (hn4 : n ≤ 4) (hch : ch < n) (hk : k < t) (ht : t ≤ 4) (hlk : ∀ c, c < n → lk c < 16) (mn : Nat) (hmn : mn ≤ 12) : ∀ (L : List Nat) (i w nf : Nat) (R dv : Nat → Nat) (m : rn_Mem), i + L.length = mn → L.length < nf → w < 2 ^ 30 → m.1 116 1 = nI n → m.1 116 2 = nI t → (∀ c, c < n → m.1 146 c = nI (lk c)) → (∀ j x, L[j]? = some x → m.1 147 (i + j) = nI x ∧ x < 16) → (∀ c, c < n → c ≠ ch → m.1 148 c = nI (dv c) ∧ dv c + R c = t - k) → ∃ m2, mo_isDeal_l38 (nI ch) (nI k) (nI mn) nf (nI w) 1 (nI i) m = some (if isd n lk ch L R w = true then 1 else 0, m2) ∧ Kr (fun p => p = 148) m m2 := by
  intro L
  induction L with
  | nil =>
    intro i w nf R dv m e hnf hw h1 h2 hl hu hd
    obtain ⟨nf, rfl⟩ : ∃ e, nf = e + 1 := ⟨nf - 1, by omega⟩
    rw [List.length_nil] at e
    refine ⟨m, ?_, Kr.rf⟩
    unfold mo_isDeal_l38
    rw [if_neg (by rw [nI_ltI (by omega) (by omega)]; omega), isd]
    rfl
  | cons x L ih =>
    intro i w nf R dv m e hnf hw h1 h2 hl hu hd
    rw [List.length_cons] at e hnf
    obtain ⟨nf, rfl⟩ : ∃ e, nf = e + 1 := ⟨nf - 1, by omega⟩
    obtain ⟨u1, u2⟩ := hu 0 x rfl
    rw [Nat.add_zero] at u1
    have hn1 : ¬ nI (n - 1) = 0 := nI_ne0 (by omega) (by omega)
    have hwm := Nat.mod_lt w (show n - 1 > 0 by omega)
    have hwd := Nat.div_le_self w (n - 1)
    obtain ⟨c, hc⟩ : ∃ c, c = (if w % (n - 1) < ch then w % (n - 1) else w % (n - 1) + 1) := ⟨_, rfl⟩
    have hcn : c < n ∧ c ≠ ch := by
      rw [hc]
      split <;> omega
    obtain ⟨d1, d2⟩ := hd c hcn.1 hcn.2
    have hdv : dv c ≤ 4 := by omega
    have hlc := hlk c hcn.1
    have hin : rn_in (nI c) 4 = true := (in_n (by omega)).mpr (by omega)
    have ko : ∀ q, q ≠ 148 → (rm_i m 148 c (nI (dv c + 1))).1 q = m.1 q := by
      intro q hq
      funext j
      rw [mi_get, if_neg (fun z => hq z.1)]
    have hcc : (if nI (w % (n - 1)) < nI ch then some (0 : Int32) else some 1).bind (fun x20 => some (nI (w % (n - 1)) + x20)) = some (nI c) := by
      rw [hc]
      by_cases q : w % (n - 1) < ch
      · rw [if_pos ((nI_ltI (by omega) (by omega)).mpr q), if_pos q]
        simp only [Option.bind_some, k0, nI_add]
        rfl
      · rw [if_neg (mt (nI_ltI (by omega) (by omega)).mp q), if_neg q]
        simp only [Option.bind_some, nI_1]
    have st : mo_isDeal_l38 (nI ch) (nI k) (nI mn) (nf + 1) (nI w) 1 (nI i) m = mo_isDeal_l38 (nI ch) (nI k) (nI mn) nf (nI (w / (n - 1))) (if 0 < R c ∧ (lk c).testBit (x / 4) = false then 1 else 0) (nI (i + 1)) (rm_i m 148 c (nI (dv c + 1))) := by
      have hcc2 : (if nI (w % (n - 1)) < nI ch then some (0 : Int32) else some 1) = some (nI c - nI (w % (n - 1))) ∧ nI (w % (n - 1)) + (nI c - nI (w % (n - 1))) = nI c := by
        rw [hc]
        by_cases q : w % (n - 1) < ch
        · rw [if_pos ((nI_ltI (by omega) (by omega)).mpr q), if_pos q, pk_sub (by omega), Nat.sub_self, nI_add]
          exact ⟨rfl, by rw [Nat.add_zero]⟩
        · rw [if_neg (mt (nI_ltI (by omega) (by omega)).mp q), if_neg q, pk_sub (by omega), nI_add, show w % (n - 1) + 1 - w % (n - 1) = 1 by omega]
          exact ⟨rfl, rfl⟩
      rw [mo_isDeal_l38, if_pos (by rw [nI_ltI (by omega) (by omega)]; omega), if_neg (by decide), h1, show nI n - 1 = nI (n - 1) from pk_sub (b := 1) (by omega), if_pos hn1, rem_n (by omega) (by omega) (by omega), pk_div (by omega) (by omega) (by omega)]
      simp only [Option.bind_some, if_pos hn1]
      rw [hcc2.1]
      simp only [Option.bind_some, hcc2.2, if_pos hin]
      rw [nI_n (by omega), d1, nI_1, ko 116 (by omega), h2, pk_sub (by omega), mi_get, if_pos (show 148 = 148 ∧ c = c from ⟨rfl, rfl⟩)]
      by_cases q1 : 0 < R c
      · rw [if_neg (show ¬ nI (t - k) < nI (dv c + 1) by rw [nI_ltI (by omega) (by omega)]; omega), if_pos (show rn_in (nI i) 12 = true from (in_n (by omega)).mpr (by omega)), nI_n (by omega), ko 147 (by omega), ko 146 (by omega), u1, hl c hcn.1]
        unfold mo_suitOf
        simp only [Option.bind_some]
        rw [k4, pk_div (by omega) (by omega) (by omega)]
        simp only [bit_0 (show lk c < 2 ^ 31 by omega) (show x / 4 < 32 by omega), nI_1]
        by_cases q2 : (lk c).testBit (x / 4) = false
        · rw [if_pos q2, if_pos ⟨q1, q2⟩]
          rfl
        · rw [if_neg q2, if_neg (fun z => q2 z.2)]
          rfl
      · rw [if_pos (show nI (t - k) < nI (dv c + 1) by rw [nI_ltI (by omega) (by omega)]; omega), if_neg (show ¬ (0 < R c ∧ (lk c).testBit (x / 4) = false) from fun z => q1 z.1), nI_1]
        rfl
    rw [st, isd, ← hc]
    have kr : Kr (fun p => p = 148) m (rm_i m 148 c (nI (dv c + 1))) := Kr.rf.sti (by exact rfl)
    by_cases q : 0 < R c ∧ (lk c).testBit (x / 4) = false
    · rw [if_pos q, if_pos q]
      obtain ⟨m2, b1, b2⟩ := ih (i + 1) (w / (n - 1)) nf (fun d => if d = c then R d - 1 else R d) (fun d => if d = c then dv d + 1 else dv d) (rm_i m 148 c (nI (dv c + 1))) (by omega) (by omega) (by omega) (by rw [ko 116 (by omega)]; exact h1) (by rw [ko 116 (by omega)]; exact h2) (by rw [ko 146 (by omega)]; exact hl) (by
        intro j y hy
        rw [ko 147 (by omega), show i + 1 + j = i + (j + 1) by omega]
        exact hu (j + 1) y hy) (by
        intro d hdn hdc
        obtain ⟨g1, g2⟩ := hd d hdn hdc
        rw [mi_get]
        by_cases z : d = c
        · rw [if_pos ⟨rfl, z⟩]
          simp only [if_pos z]
          subst z
          exact ⟨rfl, by omega⟩
        · rw [if_neg (fun y => z y.2)]
          simp only [if_neg z]
          exact ⟨g1, g2⟩)
      exact ⟨m2, b1, kr.tr b2⟩
    · rw [if_neg q, if_neg q]
      refine ⟨_, ?_, kr⟩
      obtain ⟨nf, rfl⟩ : ∃ e, nf = e + 1 := ⟨nf - 1, by omega⟩
      rw [isDeal_l38_0]
      rfl
def Pkn (p : Nat) : Prop := p = 139 ∨ p = 140 ∨ p = 141 ∨ p = 146 ∨ p = 147 ∨ p = 148
theorem knows_l158_sp {n t k ch N mn : Nat} {lk : Nat → Nat} {L : List Nat} (hn : 2 ≤ n) (hn4 : n ≤ 4) (hch : ch < n) (hk : k < t) (ht : t ≤ 4) (hlk : ∀ c, c < n → lk c < 16) (hmn : mn ≤ 12) (hL : L.length = mn) (hN : N < 2 ^ 30) : ∀ (r w nf : Nat) (m : rn_Mem), w + r = N → r + 30 < nf → m.1 116 1 = nI n → m.1 116 2 = nI t → (∀ c, c < n → m.1 146 c = nI (lk c)) → (∀ j x, L[j]? = some x → m.1 147 j = nI x ∧ x < 16) → ∃ m2, mo_knows_l158 (nI ch) (nI k) (nI mn) (nI N) nf (nI (fb_ct (isd n lk ch L fun c => if c = ch then 0 else t - k) w)) (nI w) m = some (nI (fb_ct (isd n lk ch L fun c => if c = ch then 0 else t - k) N), m2) ∧ Kr (fun p => p = 148) m m2 := by
  intro r
  induction r with
  | zero =>
    intro w nf m e hnf h1 h2 hl hu
    obtain ⟨nf, rfl⟩ : ∃ e, nf = e + 1 := ⟨nf - 1, by omega⟩
    obtain rfl : w = N := by omega
    refine ⟨m, ?_, Kr.rf⟩
    unfold mo_knows_l158
    rw [if_neg (by rw [nI_ltI (by omega) (by omega)]; omega)]
  | succ r ih =>
    intro w nf m e hnf h1 h2 hl hu
    obtain ⟨nf, rfl⟩ : ∃ e, nf = e + 1 := ⟨nf - 1, by omega⟩
    obtain ⟨m1, a1, a2, a3⟩ := isDeal_l10_sp (n := n) (a1 := nI ch) (a2 := nI k) (a3 := nI mn) (a5 := nI w) (a6 := 1) hn4 n 0 nf m (by omega) (by omega) h1 (by intro i hi; omega)
    have ko : ∀ q, q ≠ 148 → m1.1 q = m.1 q := fun q hq => (a3 q hq).1
    obtain ⟨m2, b1, b2⟩ := isDeal_l38_sp (n := n) (t := t) (k := k) (ch := ch) (lk := lk) hn hn4 hch hk ht hlk mn hmn L 0 w nf (fun c => if c = ch then 0 else t - k) (fun _ => 0) m1 (by omega) (by omega) (by omega) (by rw [ko 116 (by omega)]; exact h1) (by rw [ko 116 (by omega)]; exact h2) (by rw [ko 146 (by omega)]; exact hl) (by
      intro j x hx
      rw [ko 147 (by omega), Nat.zero_add]
      exact hu j x hx) (by
      intro c hc hcc
      simp only [if_neg hcc]
      exact ⟨a2 c hc, by omega⟩)
    have ko2 : ∀ q, q ≠ 148 → m2.1 q = m.1 q := fun q hq => by rw [(b2 q hq).1, ko q hq]
    obtain ⟨m3, c1, c2⟩ := ih (w + 1) nf m2 (by omega) (by omega) (by rw [ko2 116 (by omega)]; exact h1) (by rw [ko2 116 (by omega)]; exact h2) (by rw [ko2 146 (by omega)]; exact hl) (by rw [ko2 147 (by omega)]; exact hu)
    refine ⟨m3, ?_, (a3.tr b2).tr c2⟩
    rw [← c1, fb_ct_succ, mo_knows_l158, if_pos (by rw [nI_ltI (by omega) (by omega)]; omega)]
    unfold mo_isDeal
    rw [k0, a1]
    simp only [Option.bind_some]
    rw [show nI 0 = 0 from rfl] at b1
    rw [← k0, b1]
    simp only [Option.bind_some]
    rw [if_pos (by split <;> simp)]
    simp only [Option.bind_some, nI_1]
    by_cases q : isd n lk ch L (fun c => if c = ch then 0 else t - k) w = true
    · rw [if_neg (b10 q), if_pos q]
      simp only [Option.bind_some, nI_1]
    · rw [if_pos (b00 q), if_neg q]
      simp only [Option.bind_some, k0, nI_add]
theorem M_knows {S : Nat → Nat} {m : rn_Mem} {ch k n : Nat} (hn : 1000000 ≤ n) (hw : WF S) (hz : zOK S (m.1 116)) (h11 : S 11 = 1) (hch : ch < S 1) (hk : k < S 2) : ∃ m2, mo_knows n (nI ch) (nI k) m = some (nI (kn_ans S ch k), m2) ∧ Kr Pkn m m2 := by
  obtain ⟨h1, h2, h3, h4, h5, h6, h7, h8⟩ := WF_row hw h11
  obtain ⟨wg, wt, wc, wr⟩ := WF_1 hw (S11_1 hw h11)
  have hfo : S 5 ≤ 2 := wg.2.2.2.2.2.2.2.1
  have hkn := kn (n := S 1) hk
  obtain ⟨m1, a1, ⟨a2, a3, a4⟩, a5⟩ := takeRow_sp (nf := n) (by omega) hw h11 hz
  have z1 : m1.1 116 = m.1 116 := (a5 116 (by unfold Ptr; omega)).1
  obtain ⟨m2, b1, b2, b3⟩ := findLacks_l9_sp (n := S 1) (a1 := nI k) h2 (S 1) 0 n m1 (by omega) (by omega) (by intro i hi; omega)
  have z2 : m2.1 116 = m.1 116 := by rw [(b3 116 (by omega)).1, z1]
  obtain ⟨m3, c1, c2, c3⟩ := findLacks_l29_sp (n := S 1) (t := S 2) (fo := S 5) (tr := S 4) (ls := S 6) (b := S 88) (k := k) (f := fun i => S (89 + i)) h1 h2 h4 h5 hk h7 hfo h8 (S 1 * k) 0 n m2 (by omega) (by omega) (by rw [z2]; exact zOK_at hz (by omega) (by omega) (by omega) (by omega)) (by rw [z2]; exact hz.2.1) (by rw [z2]; exact zOK_at hz (by omega) (by omega) (by omega) (by omega)) (by rw [(b3 141 (by omega)).1]; exact a2) (by
    intro j hj
    rw [(b3 139 (by omega)).1]
    exact a3 j (by omega)) b2
  have z3 : m3.1 116 = m.1 116 := by rw [(c3 116 (by omega)).1, z2]
  have n3 : m3.1 116 1 = nI (S 1) := by rw [z3]; exact zOK_at hz (by omega) (by omega) (by omega) (by omega)
  have t3 : m3.1 116 2 = nI (S 2) := by rw [z3]; exact zOK_at hz (by omega) (by omega) (by omega) (by omega)
  obtain ⟨m4, d1, d2, d3⟩ := knows_l80_sp (n := S 1) (t := S 2) (tr := S 4) (ls := S 6) (b := S 88) (ch := ch) (f := fun i => S (89 + i)) (a2 := nI k) h1 h2 h4 h5 h7 hch (S 1 * S 2 - S 1 * k) (S 1 * k) n [] m3 (by omega) (by omega) (by rw [List.length_nil]; omega) n3 t3 (by
    intro j hj
    rw [(c3 139 (by omega)).1, (b3 139 (by omega)).1]
    exact a3 j (by omega)) (by rw [(c3 141 (by omega)).1, (b3 141 (by omega)).1]; exact a2) (by
    intro j x hx
    cases hx)
  rw [List.nil_append, List.length_nil, show nI 0 = 0 from rfl] at d1
  rw [List.nil_append] at d2
  rw [show (rpa (S 1) (S 4) (S 6) (S 88) fun i => S (89 + i)) = Sp S from rfl] at d1 d2
  have hlen := ul_len (p := Sp S) (f := fun i => S (89 + i)) (ch := ch) (S 1 * S 2 - S 1 * k) (S 1 * k)
  have z4 : m4.1 116 = m.1 116 := by rw [(d3 116 (by omega)).1, z3]
  have e1 := knows_l127_sp (n := S 1) (mn := (ul (Sp S) (fun i => S (89 + i)) ch (S 1 * S 2 - S 1 * k) (S 1 * k)).length) (a1 := nI ch) (a2 := nI k) (m := m4) h1 (by rw [z4]; exact zOK_at hz (by omega) (by omega) (by omega) (by omega)) (by omega) ((ul (Sp S) (fun i => S (89 + i)) ch (S 1 * S 2 - S 1 * k) (S 1 * k)).length) 0 n (by omega) (by omega)
  have hpw : (S 1 - 1) ^ (ul (Sp S) (fun i => S (89 + i)) ch (S 1 * S 2 - S 1 * k) (S 1 * k)).length ≤ 3 ^ 12 := Nat.le_trans (Nat.pow_le_pow_left (show S 1 - 1 ≤ 3 by omega) _) (Nat.pow_le_pow_right (by omega) (by omega))
  have hpn : (3 : Nat) ^ 12 = 531441 := by decide
  have hlk : ∀ c, lka (S 1) (S 5) (S 4) (Sp S) (fun i => S (89 + i)) c (S 1 * k) < 16 := fun c => lka_lt fun j hj => h8 _ (by have := Nat.div_add_mod j (S 1); omega)
  have hu16 : ∀ r i, i + r = S 1 * S 2 → ∀ (j x : Nat), (ul (Sp S) (fun i => S (89 + i)) ch r i)[j]? = some x → x < 16 := by
    intro r
    induction r with
    | zero =>
      intro i hi j x hx
      cases hx
    | succ r ih =>
      intro i hi j x hx
      rw [ul] at hx
      split at hx
      · exact ih (i + 1) (by omega) j x hx
      · cases j with
        | zero =>
          cases hx
          exact h8 i (by omega)
        | succ j => exact ih (i + 1) (by omega) j x hx
  obtain ⟨m5, f1, f2⟩ := knows_l158_sp (n := S 1) (t := S 2) (k := k) (ch := ch) (N := (S 1 - 1) ^ (ul (Sp S) (fun i => S (89 + i)) ch (S 1 * S 2 - S 1 * k) (S 1 * k)).length) (mn := (ul (Sp S) (fun i => S (89 + i)) ch (S 1 * S 2 - S 1 * k) (S 1 * k)).length) (lk := fun c => lka (S 1) (S 5) (S 4) (Sp S) (fun i => S (89 + i)) c (S 1 * k)) (L := ul (Sp S) (fun i => S (89 + i)) ch (S 1 * S 2 - S 1 * k) (S 1 * k)) h1 h2 hch hk h4 (fun c _ => hlk c) (by omega) rfl (by omega) ((S 1 - 1) ^ (ul (Sp S) (fun i => S (89 + i)) ch (S 1 * S 2 - S 1 * k) (S 1 * k)).length) 0 n m4 (by omega) (by omega) (by rw [z4]; exact zOK_at hz (by omega) (by omega) (by omega) (by omega)) (by rw [z4]; exact zOK_at hz (by omega) (by omega) (by omega) (by omega)) (by rw [(d3 146 (by omega)).1]; exact c2) (fun j x hx => ⟨d2 j x hx, hu16 _ _ (by omega) j x hx⟩)
  have hz0 := isd_ct (lk := fun c => lka (S 1) (S 5) (S 4) (Sp S) (fun i => S (89 + i)) c (S 1 * k)) h1 hch (ul (Sp S) (fun i => S (89 + i)) ch (S 1 * S 2 - S 1 * k) (S 1 * k)) (fun c => if c = ch then 0 else S 2 - k) (show (if ch = ch then 0 else S 2 - k) = 0 from if_pos rfl)
  rw [hz0] at f1
  refine ⟨m5, ?_, ((((a5.mono fun p hp => ?_).tr (b3.mono fun p hp => ?_)).tr (c3.mono fun p hp => ?_)).tr (d3.mono fun p hp => ?_)).tr (f2.mono fun p hp => ?_)⟩
  · unfold mo_knows
    rw [mo_in_i n _ 0 3 0 3 m (by decide) (by decide), if_pos (by rw [nI_int (by omega)]; omega)]
    simp only [Option.bind_some]
    rw [if_neg (by decide), mo_in_i n _ 0 3 0 3 m (by decide) (by decide), if_pos (by rw [nI_int (by omega)]; omega)]
    simp only [Option.bind_some]
    rw [if_neg (by decide), if_neg (by rw [zOK_at hz (by omega) (by omega) (by omega) (by omega), h11]; decide), mo_isChair_eq n S _ m (zOK_at hz (by omega) (by omega) (by omega) (by omega)) (by omega), if_pos (by rw [nI_int (by omega)]; omega)]
    simp only [Option.bind_some]
    rw [if_neg (by decide), zOK_at hz (k := 2) (by omega) (by omega) (by omega) (by omega), if_pos ((nI_ltI (by omega) (by omega)).mpr hk), a1]
    simp only [Option.bind_some]
    unfold mo_findLacks
    simp only [Option.bind_some]
    rw [z1, zOK_at hz (k := 1) (by omega) (by omega) (by omega) (by omega), k0, b1]
    simp only [Option.bind_some]
    rw [c1]
    simp only [Option.bind_some]
    rw [n3, pk_mul, Nat.mul_comm k (S 1), ← k0, d1]
    simp only [Option.bind_some]
    rw [show nI ((S 1 - 1) ^ 0) = 1 from rfl, show nI 0 = 0 from rfl] at e1
    rw [e1]
    simp only [Option.bind_some]
    rw [show nI (fb_ct (isd (S 1) (fun c => lka (S 1) (S 5) (S 4) (Sp S) (fun i => S (89 + i)) c (S 1 * k)) ch (ul (Sp S) (fun i => S (89 + i)) ch (S 1 * S 2 - S 1 * k) (S 1 * k)) fun c => if c = ch then 0 else S 2 - k) 0) = 0 from rfl, show nI 0 = 0 from rfl] at f1
    rw [f1]
    rfl
  · unfold Ptr at hp; unfold Pkn; omega
  · unfold Pkn; omega
  · unfold Pkn; omega
  · unfold Pkn; omega
  · unfold Pkn; omega
theorem C_knows (S V : Nat → Nat) (m : rn_Mem) (hw : WF S) (hc : cSt S V 3 m) (a b : Int32) (n : Nat) (hn : 1000000 ≤ n) : ∃ r m1, lt_knows n a b m = some (r, m1) ∧ Kr Pju m m1 ∧ ∀ m', zOK S (m'.1 116) → ∃ m2, mo_knows n a b m' = some (r, m2) ∧ Kr Pkn m' m2 := by
  have c40 : m.1 14 0 = nI (S 11) := hc.2.2.2.1
  by_cases hab : (0 ≤ a.toInt ∧ a.toInt ≤ 3) ∧ 0 ≤ b.toInt ∧ b.toInt ≤ 3
  case neg =>
    refine ⟨-1, m, ?_, Kr.rf, fun m' hz => ⟨m', ?_, Kr.rf⟩⟩
    · unfold lt_knows
      rw [lt_isNoChair_eq]
      simp only [Option.bind_some]
      by_cases q1 : 0 ≤ a.toInt ∧ a.toInt ≤ 3
      · rw [if_pos q1, if_pos rfl, lt_isNoTrick_eq, if_neg (fun z => hab ⟨q1, z⟩)]
        rfl
      · rw [if_neg q1, if_neg (by decide)]
    · unfold mo_knows
      rw [mo_in_i n a 0 3 0 3 m' (by decide) (by decide)]
      simp only [Option.bind_some]
      by_cases q1 : 0 ≤ a.toInt ∧ a.toInt ≤ 3
      · rw [if_neg (b10 q1), mo_in_i n b 0 3 0 3 m' (by decide) (by decide)]
        simp only [Option.bind_some]
        rw [if_pos (b00 (fun z => hab ⟨q1, z⟩))]
      · rw [if_pos (b00 q1)]
  obtain ⟨ha, hb⟩ := hab
  obtain ⟨ch, hch, rfl⟩ := i_nat (x := a) (k := 4) ha.1 (by omega)
  obtain ⟨k, hk, rfl⟩ := i_nat (x := b) (k := 4) hb.1 (by omega)
  have hL : lt_knows n (nI ch) (nI k) m = if m.1 14 0 = 0 then some (-2, m) else if nI ch < m.1 4 1 then if nI k < m.1 4 2 then (ju_thinkable n 4 14 (nI ch) (nI k) m).bind fun (r13, m12) => some (r13, m12) else some (-1, m) else some (-1, m) := by
    unfold lt_knows
    rw [lt_isNoChair_eq, if_pos ha]
    simp only [Option.bind_some, if_true]
    rw [lt_isNoTrick_eq, if_pos hb]
    simp only [Option.bind_some, if_true]
  have hM : ∀ m', mo_knows n (nI ch) (nI k) m' = if m'.1 116 11 = 0 then some (-2, m') else (mo_isChair n (nI ch) m').bind fun (r11, m10) => if r11 = 0 then some (-1, m10) else if nI k < m10.1 116 2 then (mo_takeRow n m10).bind fun m15 => (mo_findLacks n (nI k) m15).bind fun m17 => (some (nI k * (m17.1 116 1))).bind fun (x19 : Int32) => (mo_knows_l80 (nI ch) (nI k) n 0 x19 m17).bind fun (x39, m38) => (mo_knows_l127 (nI ch) (nI k) x39 n 1 0 m38).bind fun (x47, m46) => (mo_knows_l158 (nI ch) (nI k) x39 x47 n 0 0 m46).bind fun (x66, m60) => some (x66, m60) else some (-1, m10) := by
    intro m'
    unfold mo_knows
    rw [mo_in_i n _ 0 3 0 3 m' (by decide) (by decide), if_pos ha]
    simp only [Option.bind_some]
    rw [if_neg (by decide), mo_in_i n _ 0 3 0 3 m' (by decide) (by decide), if_pos hb]
    simp only [Option.bind_some]
    rw [if_neg (by decide)]
  rcases S11_01 hw with h11 | h11
  · refine ⟨-2, m, ?_, Kr.rf, fun m' hz => ⟨m', ?_, Kr.rf⟩⟩
    · rw [hL, if_pos (by rw [c40, h11]; rfl)]
    · rw [hM, if_pos (by rw [zOK_at hz (by omega) (by omega) (by omega) (by omega), h11]; rfl)]
  obtain ⟨h1, h2, h3, h4, h5, h6, h7, h8⟩ := WF_row hw h11
  obtain ⟨e1, e2, _⟩ := hc.1.2 (S11_1 hw h11)
  rw [if_neg (by rw [c40, h11]; decide), show m.1 4 1 = _ from e1, show m.1 4 2 = _ from e2] at hL
  by_cases q1 : ch < S 1
  case neg =>
    refine ⟨-1, m, ?_, Kr.rf, fun m' hz => ⟨m', ?_, Kr.rf⟩⟩
    · rw [hL, if_neg (mt (nI_ltI (by omega) (by omega)).mp q1)]
    · rw [hM, if_neg (by rw [zOK_at hz (by omega) (by omega) (by omega) (by omega), h11]; decide), mo_isChair_eq n S _ m' (zOK_at hz (by omega) (by omega) (by omega) (by omega)) (by omega), if_neg (by rw [nI_int (by omega)]; omega)]
      rfl
  rw [if_pos ((nI_ltI (by omega) (by omega)).mpr q1)] at hL
  by_cases q2 : k < S 2
  case neg =>
    refine ⟨-1, m, ?_, Kr.rf, fun m' hz => ⟨m', ?_, Kr.rf⟩⟩
    · rw [hL, if_neg (mt (nI_ltI (by omega) (by omega)).mp q2)]
    · rw [hM, if_neg (by rw [zOK_at hz (by omega) (by omega) (by omega) (by omega), h11]; decide), mo_isChair_eq n S _ m' (zOK_at hz (by omega) (by omega) (by omega) (by omega)) (by omega), if_pos (by rw [nI_int (by omega)]; omega)]
      simp only [Option.bind_some]
      rw [if_neg (by decide), zOK_at hz (k := 2) (by omega) (by omega) (by omega) (by omega), if_neg (mt (nI_ltI (by omega) (by omega)).mp q2)]
  rw [if_pos ((nI_ltI (by omega) (by omega)).mpr q2)] at hL
  obtain ⟨m1, a1, a2⟩ := thinkable_sp (nf := n) (by omega) hw hc h11 q1 q2
  exact ⟨_, m1, by rw [hL, a1]; rfl, a2, fun m' hz => M_knows hn hw hz h11 q1 q2⟩
