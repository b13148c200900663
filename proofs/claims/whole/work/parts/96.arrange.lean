/-! SEARCH: all orders of a trick's cards -/
def odl : Nat → List Nat
  | 1 => [0]
  | 2 => [0, 1, 1, 0]
  | 3 => [0, 1, 2, 0, 2, 1, 1, 0, 2, 1, 2, 0, 2, 0, 1, 2, 1, 0]
  | 4 => [0, 1, 2, 3, 0, 1, 3, 2, 0, 2, 1, 3, 0, 2, 3, 1, 0, 3, 1, 2, 0, 3, 2, 1, 1, 0, 2, 3, 1, 0, 3, 2, 1, 2, 0, 3, 1, 2, 3, 0, 1, 3, 0, 2, 1, 3, 2, 0, 2, 0, 1, 3, 2, 0, 3, 1, 2, 1, 0, 3, 2, 1, 3, 0, 2, 3, 0, 1, 2, 3, 1, 0, 3, 0, 1, 2, 3, 0, 2, 1, 3, 1, 0, 2, 3, 1, 2, 0, 3, 2, 0, 1, 3, 2, 1, 0]
  | _ => []
def od (n q j : Nat) : Nat := (odl n).getD (n * q + j) 0
def fac : Nat → Nat
  | 0 => 1
  | n + 1 => (n + 1) * fac n
def noS (S : Nat → Nat) : Nat := if S 7 = 1 then fac (S 1) else 1
def arf (n kp : Nat) : Nat → Nat → List Nat → List (List Nat) → List (List Nat)
  | 0, _, pos, v => v ++ [pos]
  | r + 1, used, pos, v => rfold (fun v j => if used.testBit j = false ∧ (kp = 1 ∨ j = n - (r + 1)) then arf n kp r (used ||| 2 ^ j) (pos ++ [j]) v else v) n 0 v
def prm (n o : Nat) : List (List Nat) := (List.range o).map fun q => (List.range n).map fun j => od n q j
theorem arf_2 : arf 2 1 2 0 [] [] = prm 2 2 ∧ arf 2 0 2 0 [] [] = prm 2 1 := by decide +kernel
theorem arf_3 : arf 3 1 3 0 [] [] = prm 3 6 ∧ arf 3 0 3 0 [] [] = prm 3 1 := by decide +kernel
theorem arf_4 : arf 4 1 4 0 [] [] = prm 4 24 ∧ arf 4 0 4 0 [] [] = prm 4 1 := by decide +kernel
theorem arf_S {S : Nat → Nat} (h1 : 2 ≤ S 1) (h2 : S 1 ≤ 4) (h7 : S 7 ≤ 1) : arf (S 1) (S 7) (S 1) 0 [] [] = prm (S 1) (noS S) := by
  have e1 : S 1 = 2 ∨ S 1 = 3 ∨ S 1 = 4 := by omega
  have e7 : S 7 = 0 ∨ S 7 = 1 := by omega
  unfold noS
  rcases e1 with e | e | e <;> rcases e7 with z | z <;> rw [e, z]
  · exact arf_2.2
  · exact arf_2.1
  · exact arf_3.2
  · exact arf_3.1
  · exact arf_4.2
  · exact arf_4.1
theorem noS_le {S : Nat → Nat} (h1 : 2 ≤ S 1) (h2 : S 1 ≤ 4) : 1 ≤ noS S ∧ noS S ≤ 24 := by
  have e1 : S 1 = 2 ∨ S 1 = 3 ∨ S 1 = 4 := by omega
  unfold noS
  split
  · rcases e1 with e | e | e <;> rw [e] <;> decide
  · omega
theorem od_lt : ∀ n, n < 5 → 2 ≤ n → ∀ q, q < 24 → q < fac n → ∀ j, j < n → od n q j < n := by decide +kernel
theorem od_i2 : ∀ q, q < 2 → ∀ j, j < 2 → ∀ i, i < 2 → od 2 q i = od 2 q j → i = j := by decide +kernel
theorem od_i3 : ∀ q, q < 6 → ∀ j, j < 3 → ∀ i, i < 3 → od 3 q i = od 3 q j → i = j := by decide +kernel
theorem od_i4 : ∀ q, q < 24 → ∀ j, j < 4 → ∀ i, i < 4 → od 4 q i = od 4 q j → i = j := by decide +kernel
theorem od_inj {n q i j : Nat} (h2 : 2 ≤ n) (h4 : n ≤ 4) (hq : q < fac n) (hi : i < n) (hj : j < n) (h : od n q i = od n q j) : i = j := by
  obtain rfl | rfl | rfl : n = 2 ∨ n = 3 ∨ n = 4 := by omega
  · exact od_i2 q hq j hj i hi h
  · exact od_i3 q hq j hj i hi h
  · exact od_i4 q hq j hj i hi h
theorem od_0 : ∀ n, n < 5 → ∀ j, j < n → od n 0 j = j := by decide +kernel
theorem noS_f {S : Nat → Nat} (h1 : 2 ≤ S 1) (h2 : S 1 ≤ 4) : noS S ≤ fac (S 1) := by
  unfold noS
  have e1 : S 1 = 2 ∨ S 1 = 3 ∨ S 1 = 4 := by omega
  split
  · omega
  · rcases e1 with e | e | e <;> rw [e] <;> decide
theorem WRl_c {S : Nat → Nat} {ask c p : Nat} {F H : Nat → Nat → Nat} {Q sz : Nat} {cl : Nat → Nat} {A : Nat → Nat → Nat} {m : rn_Mem} (h : ∀ q, q < Q → F q = H q) (hR : WRl S ask c p F Q sz cl A m) : WRl S ask c p H Q sz cl A m := by
  obtain ⟨r1, r2, r3, r4, r5⟩ := hR
  refine ⟨r1, r2, fun q hq => by rw [← h q hq]; exact r3 q hq, fun a ha => ?_, r5⟩
  obtain ⟨⟨q, s1, s2, s3⟩, s4, s5, s6⟩ := r4 a ha
  refine ⟨⟨q, s1, s2, by rw [← h q s1]; exact s3⟩, s4, fun x => ?_, fun q hq he => by rw [← h q hq]; exact s6 q hq he⟩
  rw [s5 x]
  constructor
  · rintro ⟨q, t1, t2, t3⟩; exact ⟨q, t1, t2, by rw [← h q t1]; exact t3⟩
  · rintro ⟨q, t1, t2, t3⟩; exact ⟨q, t1, t2, by rw [h q t1]; exact t3⟩
theorem WRl_kp {S : Nat → Nat} {ask c p : Nat} {F : Nat → Nat → Nat} {Q sz : Nat} {cl : Nat → Nat} {A : Nat → Nat → Nat} {m m2 : rn_Mem} (hR : WRl S ask c p F Q sz cl A m) (h1 : ∀ r, p ≤ r → r ≤ p + 7 → m2.1 r = m.1 r) (h2 : m2.2 (p + 6) = m.2 (p + 6)) : WRl S ask c p F Q sz cl A m2 := by
  obtain ⟨r1, r2, r3, r4, r5⟩ := hR
  refine ⟨by rw [h1 p (by omega) (by omega)]; exact r1, r2, r3, r4, ?_⟩
  rw [h1 (p + 1) (by omega) (by omega), h1 (p + 2) (by omega) (by omega), h1 (p + 3) (by omega) (by omega), h1 (p + 4) (by omega) (by omega), h1 (p + 5) (by omega) (by omega), h1 (p + 7) (by omega) (by omega), h2]
  exact r5
/-- the row of cards that a list of places tells -/
def rw_ (g : Nat → Nat) (pos : List Nat) : Nat → Nat := fun j => g (pos.getD j 0)
def WLs (S : Nat → Nat) (ask c p : Nat) (g : Nat → Nat) (v : List (List Nat)) (m : rn_Mem) : Prop := ∃ sz cl A, WRl S ask c p (fun q => rw_ g (v.getD q [])) v.length sz cl A m
theorem pk16_c {f g : Nat → Nat} : ∀ {j : Nat}, (∀ i, i < j → f i = g i) → pk16 f j = pk16 g j
  | 0, _ => rfl
  | j + 1, h => by rw [pk16, pk16, pk16_c fun i hi => h i (by omega), h j (by omega)]
theorem rfold_le {n kp : Nat} : ∀ {r : Nat} {used : Nat} {pos : List Nat} {v : List (List Nat)}, v.length ≤ (arf n kp r used pos v).length
  | 0, used, pos, v => by rw [arf, List.length_append]; omega
  | r + 1, used, pos, v => by
    rw [arf]
    have : ∀ (s i : Nat) (v : List (List Nat)), v.length ≤ (rfold (fun v j => if used.testBit j = false ∧ (kp = 1 ∨ j = n - (r + 1)) then arf n kp r (used ||| 2 ^ j) (pos ++ [j]) v else v) s i v).length := by
      intro s
      induction s with
      | zero => intro i v; exact Nat.le_refl _
      | succ s ih =>
        intro i v
        rw [rfold]
        refine Nat.le_trans ?_ (ih (i + 1) _)
        split
        · exact rfold_le
        · exact Nat.le_refl _
    exact this n 0 v
def GMm (S : Nat → Nat) (m : rn_Mem) : Prop := cGa S (m.1 52) ∧ S 0 = 1 ∧ CLm S 57 m
theorem GMm_kw {S : Nat → Nat} {p : Nat} {m m2 : rn_Mem} (h : GMm S m) (hp : 70 ≤ p) (hk : Kw p m m2) : GMm S m2 := by
  have e : ∀ r, r < 70 → m2.1 r = m.1 r := fun r hr => by funext i; exact hk.1 r i (by omega)
  refine ⟨by rw [e 52 (by omega)]; exact h.1, h.2.1, ?_⟩
  unfold CLm
  rw [e 57 (by omega), e (57 + 1) (by omega), e (57 + 2) (by omega), e (57 + 3) (by omega), e (57 + 4) (by omega)]
  exact h.2.2
theorem arrange_sp {S : Nat → Nat} {ask c p fs nf : Nat} {g : Nat → Nat} (hnf : 200 < nf) (wg : WG S) (wc : WC S) (hc : c < S 1) (hask : ask < 65536) (hp : 70 ≤ p) (hfs : fs + S 1 ≤ 48) (hg : ∀ j, j < S 1 → g j < 16) : ∀ (r dp d used : Nat) (pos : List Nat) (v : List (List Nat)) (m : rn_Mem), dp + r = S 1 → r < d → used < 16 → pos.length = dp → (∀ j, j < dp → pos.getD j 0 < S 1) → (∀ q, q < v.length → ∀ i, i < S 1 → rw_ g (v.getD q []) i < 16) → (arf (S 1) (S 7) r used pos v).length ≤ 24 → GMm S m → m.1 p 0 = nI c → (∀ j, j < S 1 → m.1 56 (fs + j) = nI (g j)) → WLs S ask c p g v m → ∃ m2, se_arrange nf d p (nI fs) (nI dp) (nI used) (nI (pk16 (rw_ g pos) dp)) (nI ask) m = some m2 ∧ WLs S ask c p g (arf (S 1) (S 7) r used pos v) m2 ∧ (∀ q, q < (arf (S 1) (S 7) r used pos v).length → ∀ i, i < S 1 → rw_ g ((arf (S 1) (S 7) r used pos v).getD q []) i < 16) ∧ Kw p m m2 := by
  obtain ⟨w1, w2, w3, w4, w5, w6, w7, w8, w9, w10, w11⟩ := wg
  have wg : WG S := ⟨w1, w2, w3, w4, w5, w6, w7, w8, w9, w10, w11⟩
  intro r
  induction r with
  | zero =>
    intro dp d used pos v m hdr hd hu hpl hpos hv hlen hG hp0 h56 hW
    obtain ⟨d, rfl⟩ : ∃ e, d = e + 1 := ⟨d - 1, by omega⟩
    obtain ⟨sz, cl, A, hR⟩ := hW
    rw [arf, List.length_append] at hlen
    have hl1 : ([pos] : List (List Nat)).length = 1 := rfl
    have hgd : ∀ q, q < v.length → (v ++ [pos]).getD q [] = v.getD q [] := fun q hq => by
      rw [List.getD_eq_getElem?_getD, List.getD_eq_getElem?_getD, List.getElem?_append_left hq]
    have hgl : (v ++ [pos]).getD v.length [] = pos := by
      rw [List.getD_eq_getElem?_getD, List.getElem?_append_right (Nat.le_refl _), Nat.sub_self]; rfl
    have hR2 := WRl_c (H := fun q => rw_ g ((v ++ [pos]).getD q [])) (fun q hq => by rw [hgd q hq]) hR
    have hFb : ∀ q, q ≤ v.length → ∀ i, i < S 1 → rw_ g ((v ++ [pos]).getD q []) i < 16 := by
      intro q hq i hi
      by_cases z : q = v.length
      · rw [z, hgl]; exact hg _ (hpos i (by omega))
      · rw [hgd q (by omega)]; exact hv q (by omega) i hi
    obtain ⟨m2, sz2, cl2, A2, n1, n2, n3⟩ := note_sp (nf := nf) (by omega) wg wc hG.2.1 hG.1 hG.2.2 hc hp0 hask (show v.length < 24 by omega) hFb hR2
    rw [hgl] at n1
    refine ⟨m2, ?_, ⟨sz2, cl2, A2, by rw [arf, List.length_append]; exact n2⟩, fun q hq i hi => ?_, n3⟩
    · rw [se_arrange]
      unfold se_arrange_1
      rw [(hG.1.2 hG.2.1).1, if_neg (by rw [nI_ltI (by omega) (by omega)]; omega), show dp = S 1 by omega, n1]
      rfl
    · rw [arf] at hq ⊢
      rw [List.length_append] at hq
      exact hFb q (by omega) i hi
  | succ r ih =>
    intro dp d used pos v m hdr hd hu hpl hpos hv hlen hG hp0 h56 hW
    obtain ⟨d, rfl⟩ : ∃ e, d = e + 1 := ⟨d - 1, by omega⟩
    have hdp : dp = S 1 - (r + 1) := by omega
    rw [arf] at hlen
    have loop : ∀ (s j nf2 : Nat) (v : List (List Nat)) (m : rn_Mem), j + s = S 1 → s < nf2 → (∀ q, q < v.length → ∀ i, i < S 1 → rw_ g (v.getD q []) i < 16) → (rfold (fun v j => if used.testBit j = false ∧ (S 7 = 1 ∨ j = S 1 - (r + 1)) then arf (S 1) (S 7) r (used ||| 2 ^ j) (pos ++ [j]) v else v) s j v).length ≤ 24 → GMm S m → m.1 p 0 = nI c → (∀ j, j < S 1 → m.1 56 (fs + j) = nI (g j)) → WLs S ask c p g v m → ∃ m2, se_arrange_l31 (se_arrange nf d) p (nI fs) (nI dp) (nI used) (nI (pk16 (rw_ g pos) dp)) (nI ask) nf2 (nI j) m = some m2 ∧ WLs S ask c p g (rfold (fun v j => if used.testBit j = false ∧ (S 7 = 1 ∨ j = S 1 - (r + 1)) then arf (S 1) (S 7) r (used ||| 2 ^ j) (pos ++ [j]) v else v) s j v) m2 ∧ (∀ q, q < (rfold (fun v j => if used.testBit j = false ∧ (S 7 = 1 ∨ j = S 1 - (r + 1)) then arf (S 1) (S 7) r (used ||| 2 ^ j) (pos ++ [j]) v else v) s j v).length → ∀ i, i < S 1 → rw_ g ((rfold (fun v j => if used.testBit j = false ∧ (S 7 = 1 ∨ j = S 1 - (r + 1)) then arf (S 1) (S 7) r (used ||| 2 ^ j) (pos ++ [j]) v else v) s j v).getD q []) i < 16) ∧ Kw p m m2 := by
      intro s
      induction s with
      | zero =>
        intro j nf2 v m e hnf2 hv hlen hG hp0 h56 hW
        obtain ⟨nf2, rfl⟩ : ∃ e, nf2 = e + 1 := ⟨nf2 - 1, by omega⟩
        refine ⟨m, ?_, hW, hv, Kw.rf⟩
        rw [se_arrange_l31, (hG.1.2 hG.2.1).1, if_neg (by rw [nI_ltI (by omega) (by omega)]; omega)]
      | succ s ihs =>
        intro j nf2 v m e hnf2 hv hlen hG hp0 h56 hW
        obtain ⟨nf2, rfl⟩ : ∃ e, nf2 = e + 1 := ⟨nf2 - 1, by omega⟩
        obtain ⟨g1, g2, g3, g4, g5, g6, g7, g8⟩ := hG.1.2 hG.2.1
        rw [rfold] at hlen ⊢
        rw [se_arrange_l31, g1, if_pos (by rw [nI_ltI (by omega) (by omega)]; omega)]
        have hmono : ∀ (s i : Nat) (v : List (List Nat)), v.length ≤ (rfold (fun v j => if used.testBit j = false ∧ (S 7 = 1 ∨ j = S 1 - (r + 1)) then arf (S 1) (S 7) r (used ||| 2 ^ j) (pos ++ [j]) v else v) s i v).length := by
          intro s
          induction s with
          | zero => intro i v; exact Nat.le_refl _
          | succ s ih =>
            intro i v
            rw [rfold]
            refine Nat.le_trans ?_ (ih (i + 1) _)
            split
            · exact rfold_le
            · exact Nat.le_refl _
        refine ob (Q := fun mq => WLs S ask c p g (if used.testBit j = false ∧ (S 7 = 1 ∨ j = S 1 - (r + 1)) then arf (S 1) (S 7) r (used ||| 2 ^ j) (pos ++ [j]) v else v) mq ∧ (∀ q, q < (if used.testBit j = false ∧ (S 7 = 1 ∨ j = S 1 - (r + 1)) then arf (S 1) (S 7) r (used ||| 2 ^ j) (pos ++ [j]) v else v).length → ∀ i, i < S 1 → rw_ g ((if used.testBit j = false ∧ (S 7 = 1 ∨ j = S 1 - (r + 1)) then arf (S 1) (S 7) r (used ||| 2 ^ j) (pos ++ [j]) v else v).getD q []) i < 16) ∧ Kw p m mq) ?_ ?_
        case refine_2 =>
          rintro mq ⟨u1, u2, u3⟩
          have e56 : mq.1 56 = m.1 56 := by funext i; exact u3.1 56 i (by omega)
          obtain ⟨mr, v1, v2, v3, v4⟩ := ihs (j + 1) nf2 _ mq (by omega) (by omega) u2 hlen (GMm_kw hG hp u3) (by rw [u3.1 p 0 (by omega)]; exact hp0) (fun i hi => by rw [e56]; exact h56 i hi) u1
          rw [Option.bind_some, nI_1]
          exact ⟨mr, v1, v2, v3, u3.tr v4⟩
        have hlen1 : (if used.testBit j = false ∧ (S 7 = 1 ∨ j = S 1 - (r + 1)) then arf (S 1) (S 7) r (used ||| 2 ^ j) (pos ++ [j]) v else v).length ≤ 24 := Nat.le_trans (hmono s (j + 1) _) hlen
        have hin : rn_in (nI fs + nI j) 48 = true := by rw [nI_add]; exact (in_n (by omega)).mpr (by omega)
        have hgj := hg j (by omega)
        have hpb : pk16 (rw_ g pos) dp < 16 ^ dp := pk16_lt fun i hi => hg _ (hpos i hi)
        have hpb2 : 16 ^ dp ≤ 16 ^ 3 := Nat.pow_le_pow_right (by decide) (by omega)
        have hpb3 : pk16 (rw_ g pos) dp < 4096 := Nat.lt_of_lt_of_le hpb hpb2
        have hgd : ∀ i, i < dp → (pos ++ [j]).getD i 0 = pos.getD i 0 := fun i hi => by
          rw [List.getD_eq_getElem?_getD, List.getD_eq_getElem?_getD, List.getElem?_append_left (by omega)]
        have hgl : (pos ++ [j]).getD dp 0 = j := by
          rw [List.getD_eq_getElem?_getD, List.getElem?_append_right (by omega), hpl, Nat.sub_self]; rfl
        have hplay : (nI (pk16 (rw_ g pos) dp) <<< ((4 : Int32) &&& 31)) ||| (m.1 56 (nI fs + nI j).toNatClampNeg) = nI (pk16 (rw_ g (pos ++ [j])) (dp + 1)) := by
          rw [nI_add, nI_n (by omega), h56 j (by omega), k4, shl_n (by omega) (by omega), show pk16 (rw_ g pos) dp * 2 ^ 4 = 2 ^ 4 * pk16 (rw_ g pos) dp by rw [Nat.mul_comm], fa_or_sum _ hgj, pk16]
          congr 1
          rw [pk16_c (f := rw_ g (pos ++ [j])) (g := rw_ g pos) fun i hi => by unfold rw_; rw [hgd i hi]]
          unfold rw_
          rw [hgl]
          omega
        have hused : nI used ||| ((1 : Int32) <<< (nI j &&& 31)) = nI (used ||| 2 ^ j) := by rw [shl_1 (by omega), fa_or]
        have hub : used ||| 2 ^ j < 16 := or_lt (k := 4) hu (pw_lt (by omega))
        have recs : used.testBit j = false ∧ (S 7 = 1 ∨ j = S 1 - (r + 1)) → ∃ m2, se_arrange nf d p (nI fs) (nI dp + 1) (nI used ||| ((1 : Int32) <<< (nI j &&& 31))) ((nI (pk16 (rw_ g pos) dp) <<< ((4 : Int32) &&& 31)) ||| (m.1 56 (nI fs + nI j).toNatClampNeg)) (nI ask) m = some m2 ∧ WLs S ask c p g (if used.testBit j = false ∧ (S 7 = 1 ∨ j = S 1 - (r + 1)) then arf (S 1) (S 7) r (used ||| 2 ^ j) (pos ++ [j]) v else v) m2 ∧ (∀ q, q < (if used.testBit j = false ∧ (S 7 = 1 ∨ j = S 1 - (r + 1)) then arf (S 1) (S 7) r (used ||| 2 ^ j) (pos ++ [j]) v else v).length → ∀ i, i < S 1 → rw_ g ((if used.testBit j = false ∧ (S 7 = 1 ∨ j = S 1 - (r + 1)) then arf (S 1) (S 7) r (used ||| 2 ^ j) (pos ++ [j]) v else v).getD q []) i < 16) ∧ Kw p m m2 := by
          intro hcond
          rw [if_pos hcond] at hlen1 ⊢
          rw [hplay, hused, nI_1]
          exact ih (dp + 1) d (used ||| 2 ^ j) (pos ++ [j]) v m (by omega) (by omega) hub (by rw [List.length_append, hpl]; rfl) (fun i hi => by
            by_cases z : i = dp
            · rw [z, hgl]; omega
            · rw [hgd i (by omega)]; exact hpos i (by omega)) hv hlen1 hG hp0 h56 hW
        simp only [bit_0 (show used < 2 ^ 31 by omega) (show j < 32 by omega)]
        by_cases z1 : used.testBit j = false
        case neg =>
          refine ⟨m, by rw [if_neg z1], ?_, ?_, Kw.rf⟩
          · rw [if_neg (fun y => z1 y.1)]; exact hW
          · rw [if_neg (fun y => z1 y.1)]; exact hv
        rw [if_pos z1, g7]
        by_cases z2 : S 7 = 1
        · obtain ⟨m2, a1, a2, a3, a4⟩ := recs ⟨z1, Or.inl z2⟩
          refine ⟨m2, ?_, a2, a3, a4⟩
          rw [if_pos (by rw [z2]; rfl), if_pos hin, a1]
          rfl
        · rw [if_neg (by rw [k1, nI_eq (by omega) (by omega)]; exact z2)]
          by_cases z3 : j = S 1 - (r + 1)
          · obtain ⟨m2, a1, a2, a3, a4⟩ := recs ⟨z1, Or.inr z3⟩
            refine ⟨m2, ?_, a2, a3, a4⟩
            rw [if_pos (by rw [z3, hdp]), if_pos hin, a1]
            rfl
          · refine ⟨m, by rw [if_neg (by rw [nI_eq (by omega) (by omega)]; omega)], ?_, ?_, Kw.rf⟩
            · rw [if_neg (fun y => y.2.elim z2 z3)]; exact hW
            · rw [if_neg (fun y => y.2.elim z2 z3)]; exact hv
    obtain ⟨m2, a1, a2, a3, a4⟩ := loop (S 1) 0 nf v m (by omega) (by omega) hv hlen hG hp0 h56 hW
    refine ⟨m2, ?_, by rw [arf]; exact a2, by rw [arf]; exact a3, a4⟩
    rw [se_arrange]
    unfold se_arrange_1
    rw [(hG.1.2 hG.2.1).1, if_pos (by rw [nI_ltI (by omega) (by omega)]; omega), k0, a1]
    rfl
