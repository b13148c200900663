/-! THE REFERENCE'S SEARCH: a trick laid on the later ones -/
theorem od_s1 : ∀ q, q < 1 → ∀ t, t < 1 → ∃ s, s < 1 ∧ od 1 q s = t := by decide +kernel
theorem od_s2 : ∀ q, q < 2 → ∀ t, t < 2 → ∃ s, s < 2 ∧ od 2 q s = t := by decide +kernel
theorem od_s3 : ∀ q, q < 6 → ∀ t, t < 3 → ∃ s, s < 3 ∧ od 3 q s = t := by decide +kernel
theorem od_s4 : ∀ q, q < 24 → ∀ t, t < 4 → ∃ s, s < 4 ∧ od 4 q s = t := by decide +kernel
theorem od_sur {n q t : Nat} (h4 : n ≤ 4) (hq : q < fac n) (ht : t < n) : ∃ s, s < n ∧ od n q s = t := by
  have e : n = 1 ∨ n = 2 ∨ n = 3 ∨ n = 4 := by omega
  rcases e with rfl | rfl | rfl | rfl
  · exact od_s1 q (by exact hq) t ht
  · exact od_s2 q (by exact hq) t ht
  · exact od_s3 q (by exact hq) t ht
  · exact od_s4 q (by exact hq) t ht
theorem xcQ_k {S : Nat → Nat} {X : Nat → Nat → Nat → Nat} {w q p : Nat → Nat} {k : Nat} (h : q k = p k) : xcQ S X w q k = xcQ S X w p k := by unfold xcQ; rw [h]
theorem ldQ_k {S : Nat → Nat} {X : Nat → Nat → Nat → Nat} {w q p : Nat → Nat} {k : Nat} (h : q k = p k) : ldQ S X w q k = ldQ S X w p k := by unfold ldQ; rw [xcQ_k h]
theorem suQ_a {S : Nat → Nat} {X : Nat → Nat → Nat → Nat} {w q p : Nat → Nat} : ∀ {r : Nat}, (∀ j, S 2 - r ≤ j → q j = p j) → suQ S X w q r = suQ S X w p r
  | 0, _ => rfl
  | r + 1, h => by rw [suQ, suQ, suQ_a fun j hj => h j (by omega), ldQ_k (h _ (Nat.le_refl _)), xcQ_k (h _ (Nat.le_refl _))]
theorem wrQ_a {S : Nat → Nat} {X : Nat → Nat → Nat → Nat} {w q p : Nat → Nat} {r : Nat} (h : ∀ j, S 2 - (r + 1) ≤ j → q j = p j) : wrQ S X w q r = wrQ S X w p r := by
  unfold wrQ
  rw [suQ_a fun j hj => h j (by omega), ldQ_k (h _ (Nat.le_refl _)), xcQ_k (h _ (Nat.le_refl _))]
theorem nbQ_a {S : Nat → Nat} {X : Nat → Nat → Nat → Nat} {w q p : Nat → Nat} : ∀ {r : Nat}, (∀ j, S 2 - r ≤ j → q j = p j) → nbQ S X w q r = nbQ S X w p r
  | 0, _ => rfl
  | r + 1, h => by rw [nbQ, nbQ, nbQ_a fun j hj => h j (by omega), wrQ_a h]
def trR (S : Nat → Nat) (X : Nat → Nat → Nat → Nat) (w : Nat → Nat) (x : Nat) : Nat := if (msk (fR S X w 0) (S 1)).testBit x = true then 0 else if (msk (fR S X w 1) (S 1)).testBit x = true then 1 else if (msk (fR S X w 2) (S 1)).testBit x = true then 2 else 3
def ixf (f : Nat → Nat) (x : Nat) : Nat := if f 0 = x then 0 else if f 1 = x then 1 else if f 2 = x then 2 else 3
theorem ixf_sp {f : Nat → Nat} {n t : Nat} (hn : n ≤ 4) (h : ∀ i j, i < n → j < n → f i = f j → i = j) (ht : t < n) : ixf f (f t) = t := by
  unfold ixf
  by_cases y0 : f 0 = f t
  · rw [if_pos y0]; exact h 0 t (by omega) ht y0
  rw [if_neg y0]
  have n0 : t ≠ 0 := fun e => y0 (by rw [e])
  by_cases y1 : f 1 = f t
  · rw [if_pos y1]; exact h 1 t (by omega) ht y1
  rw [if_neg y1]
  have n1 : t ≠ 1 := fun e => y1 (by rw [e])
  by_cases y2 : f 2 = f t
  · rw [if_pos y2]; exact h 2 t (by omega) ht y2
  rw [if_neg y2]
  have n2 : t ≠ 2 := fun e => y2 (by rw [e])
  omega
theorem tr_sp {S : Nat → Nat} {X : Nat → Nat → Nat → Nat} {w : Nat → Nat} {k t : Nat} (wg : WG S) (hD : DX S X) (h : FT S w) (hk : k < S 2) (ht : t < S 1) : trR S X w (fR S X w k t) = k := by
  have w4 : S 2 ≤ 4 := wg.2.2.2.1
  have hb : ∀ l, l < S 2 → (msk (fR S X w l) (S 1)).testBit (fR S X w k t) = true → l = k := fun l hl e => by
    obtain ⟨i, h1, h2⟩ := msk_bit.mp e
    exact (fR_ne hD h hl hk h1 ht h2).1
  have hs : (msk (fR S X w k) (S 1)).testBit (fR S X w k t) = true := msk_bit.mpr ⟨t, ht, rfl⟩
  unfold trR
  by_cases y0 : (msk (fR S X w 0) (S 1)).testBit (fR S X w k t) = true
  · rw [if_pos y0]; exact hb 0 (by omega) y0
  rw [if_neg y0]
  have n0 : k ≠ 0 := fun e => y0 (by rw [e] at hs ⊢; exact hs)
  by_cases y1 : (msk (fR S X w 1) (S 1)).testBit (fR S X w k t) = true
  · rw [if_pos y1]; exact hb 1 (by omega) y1
  rw [if_neg y1]
  have n1 : k ≠ 1 := fun e => y1 (by rw [e] at hs ⊢; exact hs)
  by_cases y2 : (msk (fR S X w 2) (S 1)).testBit (fR S X w k t) = true
  · rw [if_pos y2]; exact hb 2 (by omega) y2
  rw [if_neg y2]
  have n2 : k ≠ 2 := fun e => y2 (by rw [e] at hs ⊢; exact hs)
  omega
/-- every card of the pack lies in a trick -/
def SX (S : Nat → Nat) (X : Nat → Nat → Nat → Nat) : Prop := ∀ x, x < 16 → (S 3).testBit x = true → ∃ c i j, c < S 1 ∧ i < mmS S c ∧ j < S 1 ∧ X c i j = x
theorem wi_ex {S w : Nat → Nat} {c i : Nat} (h : FT S w) (hc : c < S 1) (hi : i < mmS S c) : ∃ k, k < S 2 ∧ w k = c ∧ ixk S w k = i := by
  rw [← h.2 c hc] at hi
  obtain ⟨k, h1, h2, h3⟩ := fb_ct_kth hi
  have e : w k = c := of_decide_eq_true h2
  refine ⟨k, h1, e, ?_⟩
  rw [(ixR h h1).1, e]
  exact h3
theorem SX_tr {S : Nat → Nat} {X : Nat → Nat → Nat → Nat} {w : Nat → Nat} {x : Nat} (hX : SX S X) (h : FT S w) (hx : x < 16) (hp : (S 3).testBit x = true) : ∃ k t, k < S 2 ∧ t < S 1 ∧ fR S X w k t = x := by
  obtain ⟨c, i, j, h1, h2, h3, h4⟩ := hX x hx hp
  obtain ⟨k, h5, h6, h7⟩ := wi_ex h h1 h2
  exact ⟨k, j, h5, h3, by unfold fR; rw [h6, h7]; exact h4⟩
def plQ (S : Nat → Nat) (X : Nat → Nat → Nat → Nat) (w : Nat → Nat) (b : Nat) (q : Nat → Nat) (k x : Nat) : Nat := (ldR S w b k + ixf (xcQ S X w q k) x) % S 1
def CTQ (S : Nat → Nat) (X : Nat → Nat → Nat → Nat) (w : Nat → Nat) (b M : Nat) (q : Nat → Nat) (k : Nat) : Prop := ∀ x, x < S 10 → CTk S M k (trR S X w) (plQ S X w b q k) (nb4 (suQ S X w q (S 2 - k))) x
def COQ (S : Nat → Nat) (X : Nat → Nat → Nat → Nat) (w : Nat → Nat) (b M : Nat) : Prop := ∀ x, x < S 10 → CO S M (ldR S w b) (trR S X w) x
/-- the tricks from k on are laid -/
def TS (S : Nat → Nat) (X : Nat → Nat → Nat → Nat) (w : Nat → Nat) (b k : Nat) (q : Nat → Nat) (m : rn_Mem) : Prop := (∀ j, k ≤ j → j < S 2 → (q j < noS S ∧ okR S X w b j (q j) = true ∧ m.1 133 j = nI (fb_ct (okR S X w b j) (q j))) ∧ ∀ t, t < S 1 → m.1 136 (xcQ S X w q j t) = nI ((ldR S w b j + t) % S 1)) ∧ ∀ j, k ≤ j → j ≤ S 2 → (∀ c, c < S 1 → m.1 134 (4 * j + c) = nI (nb4 (suQ S X w q (S 2 - j)) c)) ∧ m.1 135 j = nI (nbQ S X w q (S 2 - j))
/-- what the laying of tricks reads -/
def GB0 (S : Nat → Nat) (X : Nat → Nat → Nat → Nat) (w : Nat → Nat) (b M : Nat) (cn : Bool) (pc : Nat) (m : rn_Mem) : Prop := zOT S (m.1 116) ∧ m.1 115 6 = nI M ∧ m.1 115 8 = zT (S 4) ∧ m.1 115 9 = nI (S 5) ∧ m.1 115 11 = (if cn = true then 1 else 0) ∧ (∀ c, c < 4 → (nI c = m.1 115 12 ↔ c = pc)) ∧ FOm S X w b (S 2) m
theorem GB0_k {S : Nat → Nat} {X : Nat → Nat → Nat → Nat} {w : Nat → Nat} {b M pc : Nat} {cn : Bool} {m m2 : rn_Mem} (h : GB0 S X w b M cn pc m) (h1 : ∀ p, p = 116 ∨ (129 ≤ p ∧ p ≤ 132) ∨ p = 137 → m2.1 p = m.1 p) (h2 : ∀ i, i < 14 → m2.1 115 i = m.1 115 i) : GB0 S X w b M cn pc m2 := by
  unfold GB0 FOm at h ⊢
  rw [h1 116 (by omega), h1 129 (by omega), h1 130 (by omega), h1 131 (by omega), h1 132 (by omega), h1 137 (by omega), h2 6 (by omega), h2 8 (by omega), h2 9 (by omega), h2 11 (by omega), h2 12 (by omega)]
  exact h
/-- a trick that is let -/
def LTp (S : Nat → Nat) (X : Nat → Nat → Nat → Nat) (w : Nat → Nat) (b M : Nat) (cn : Bool) (pc k : Nat) (q : Nat → Nat) (few : Int32) : Prop := (if cn = true then (wrQ S X w q (S 2 - (k + 1))).testBit (4 * pc) = false ∧ (few < 0 ∨ nI (nbQ S X w q (S 2 - k)) < few) else cnt (wrQ S X w q (S 2 - (k + 1))) = 0) ∧ CTQ S X w b M q k
def Kly (m m2 : rn_Mem) : Prop := m2.2 = m.2 ∧ ∀ p, p ≠ 134 → p ≠ 135 → p ≠ 136 → m2.1 p = m.1 p
theorem pu_iff {S f : Nat → Nat} {U L pc : Nat} : ∀ {j : Nat}, puB S U L f pc j = true ↔ ∀ i, i < j → ¬ (brc S U L f i = true ∧ (L + i) % S 1 = pc)
  | 0 => ⟨fun _ i h => absurd h (Nat.not_lt_zero i), fun _ => rfl⟩
  | j + 1 => by
    rw [puB, Bool.and_eq_true, pu_iff, Bool.not_eq_true', Bool.and_eq_false_iff, decide_eq_false_iff_not]
    constructor
    · rintro ⟨h1, h2⟩ i hi ⟨h3, h4⟩
      by_cases y : i = j
      · rw [y] at h3 h4
        rcases h2 with h2 | h2
        · rw [h2] at h3; exact absurd h3 (by decide)
        · exact h2 h4
      · exact h1 i (by omega) ⟨h3, h4⟩
    · intro h
      refine ⟨fun i hi => h i (by omega), ?_⟩
      cases e : brc S U L f j with
      | false => exact Or.inl rfl
      | true => exact Or.inr fun t => h j (by omega) ⟨e, t⟩
theorem xc_inj {S : Nat → Nat} {X : Nat → Nat → Nat → Nat} {w q : Nat → Nat} {k : Nat} (wg : WG S) (hD : DX S X) (h : FT S w) (hk : k < S 2) (hq : q k < noS S) : ∀ i j, i < S 1 → j < S 1 → xcQ S X w q k i = xcQ S X w q k j → i = j := fun i j hi hj e =>
  od_inj wg.1 wg.2.1 (Nat.lt_of_lt_of_le hq (noS_fac wg.1 wg.2.1)) hi hj (fR_ne hD h hk hk (od_in wg.1 wg.2.1 hq hi) (od_in wg.1 wg.2.1 hq hj) e).2
theorem ld_ok {S : Nat → Nat} {X : Nat → Nat → Nat → Nat} {w q : Nat → Nat} {b k : Nat} (wg : WG S) (h : FT S w) (hb : b < S 1) (hk : k < S 2) (hok : okR S X w b k (q k) = true) : ldQ S X w q k = ldR S w b k := (okO_ld wg (ldR_lt wg hb fun j hj => h.1 j (by omega)) (h.1 k hk)).mp hok
theorem suQ_lt2 {S : Nat → Nat} {X : Nat → Nat → Nat → Nat} {w q : Nat → Nat} (wg : WG S) (hH : HZ S X) (h : FT S w) {k : Nat} (hk : k ≤ S 2) (hq : ∀ j, k ≤ j → j < S 2 → q j < noS S) : suQ S X w q (S 2 - k) < 65536 := by
  refine suQ_lt wg.1 wg.2.1 hH (by omega) fun j h1 h2 => ⟨h.1 j h2, ?_, hq j (by omega) h2⟩
  exact (((lf_fit hH.1).mpr h) j h2).2
theorem layT_sp {S : Nat → Nat} {X : Nat → Nat → Nat → Nat} {w q : Nat → Nat} {b M pc k y nf : Nat} {cn : Bool} {m : rn_Mem} (hnf : 100 < nf) (wg : WG S) (wc : WC S) (hH : HZ S X) (hD : DX S X) (hX : SX S X) (hF : FT S w) (hb : b < S 1) (hM : M < 2 ^ 31) (hpc : pc ≤ 4) (hk : k < S 2) (hG : GB0 S X w b M cn pc m) (hT : TS S X w b (k + 1) q m) (hy : y < noS S) (hok : okR S X w b k y = true) (h133 : m.1 133 k = nI (fb_ct (okR S X w b k) y)) : ∃ (m2 : rn_Mem) (a : Bool), mo_layTrick nf (nI k) m = some (if a = true then 1 else 0, m2) ∧ TS S X w b k (fu q k y) m2 ∧ (a = true ↔ LTp S X w b M cn pc k (fu q k y) (m.1 115 15)) ∧ Kly m m2 := by
  have w1 : 2 ≤ S 1 := wg.1
  have w2 : S 1 ≤ 4 := wg.2.1
  have w4 : S 2 ≤ 4 := wg.2.2.2.1
  obtain ⟨hz, g6, g8, g9, g11, g12, hO⟩ := hG
  obtain ⟨t1, t2⟩ := hT
  have z1 : m.1 116 1 = nI (S 1) := hz.1 1 (by omega) (by omega) (by omega) (by omega)
  obtain ⟨o1, o2, o3, o4⟩ := hO k hk
  have h24 := (noS_le w1 w2).2
  have hfc := noS_fac (S := S) w1 w2
  have hle : fb_ct (okR S X w b k) y ≤ y := fb_ct_le _ _
  have hL := ldR_lt (w := w) (b := b) (k := k) wg hb (fun j hj => hF.1 j (by omega))
  generalize eq' : fu q k y = p
  have pk : p k = y := by rw [← eq', fu_s]
  have pj : ∀ j, j ≠ k → p j = q j := fun j hj => by rw [← eq', fu_n hj]
  have pa : ∀ j, k + 1 ≤ j → q j = p j := fun j hj => (pj j (by omega)).symm
  have hpo : okR S X w b k (p k) = true := by rw [pk]; exact hok
  have hlq : ldQ S X w p k = ldR S w b k := ld_ok wg hF hb hk hpo
  have er : S 2 - k = (S 2 - (k + 1)) + 1 := by omega
  have ek : S 2 - ((S 2 - (k + 1)) + 1) = k := by omega
  have eU : suQ S X w q (S 2 - (k + 1)) = suQ S X w p (S 2 - (k + 1)) := suQ_a fun j hj => pa j (by omega)
  have eB : nbQ S X w q (S 2 - (k + 1)) = nbQ S X w p (S 2 - (k + 1)) := nbQ_a fun j hj => pa j (by omega)
  have hqa : ∀ j, k + 1 ≤ j → j < S 2 → p j < noS S := fun j h1 h2 => by rw [← pa j h1]; exact (t1 j h1 h2).1.1
  have hU : suQ S X w p (S 2 - (k + 1)) < 65536 := suQ_lt2 wg hH hF (by omega) hqa
  have exc : ∀ j, xcQ S X w p k j = fR S X w k (od (S 1) y j) := fun j => by unfold xcQ fR; rw [pk]
  have hf16 : ∀ j, j < S 1 → xcQ S X w p k j < 16 := fun j hj => by rw [exc]; exact hH.2 _ _ _ (hF.1 k hk) (ixR hF hk).2 (od_in w1 w2 hy hj)
  have hfi := xc_inj (q := p) wg hD hF hk (by rw [pk]; exact hy)
  obtain ⟨t2s, t2b⟩ := t2 (k + 1) (Nat.le_refl _) (by omega)
  obtain ⟨m81, a1, a2, a3, a4, a5, a6⟩ := lt_l53 (f := xcQ S X w p k) (g := fR S X w k) (k := k) (q := y) (L := ldR S w b k) (U := suQ S X w p (S 2 - (k + 1))) (pc := pc) wg hk (by omega) hL (fun j hj => exc j) hf16 hfi (S 1) 0 nf m (by omega) (by omega) g8 g9 g12 o1 (fun t ht => (o2 t ht).1) (fun c hc => by rw [← eU]; exact t2s c hc) (fun i hi => absurd hi (Nat.not_lt_zero i))
  have hwr : wrQ S X w p (S 2 - (k + 1)) = cin (suQ S X w p (S 2 - (k + 1)) &&& kBa S (ldR S w b k) (xcQ S X w p k) (S 1)) := by unfold wrQ; rw [ek, hlq]
  have hcn := wr_cnt (S := S) (f := xcQ S X w p k) w1 w2 hU (hf16 0 (by omega)) hL (Nat.le_refl (S 1))
  rw [← hwr] at hcn
  have hsu : suQ S X w p (S 2 - k) = suQ S X w p (S 2 - (k + 1)) ||| kHo S (ldR S w b k) (xcQ S X w p k) (S 1) := by rw [er, suQ, ek, hlq]
  have hnb : nbQ S X w p (S 2 - k) = nbQ S X w p (S 2 - (k + 1)) + fb_ct (brc S (suQ S X w p (S 2 - (k + 1))) (ldR S w b k) (xcQ S X w p k)) (S 1) := by rw [er, nbQ, hcn]
  rw [hcn.symm] at hnb a1
  have hpu : puB S (suQ S X w p (S 2 - (k + 1))) (ldR S w b k) (xcQ S X w p k) pc (S 1) = true ↔ (wrQ S X w p (S 2 - (k + 1))).testBit (4 * pc) = false := by
    rw [pu_iff, hwr, ← Bool.not_eq_true, wr_bit w1 w2 hU (hf16 0 (by omega))]
    exact ⟨fun h ⟨i, h1, h2, h3⟩ => h i h1 ⟨h3, by omega⟩, fun h i h1 h2 => h ⟨i, h1, by rw [h2.2], h2.1⟩⟩
  have hcb : cnt (wrQ S X w p (S 2 - (k + 1))) ≤ 16 := fb_ct_le _ _
  generalize eW : cnt (wrQ S X w p (S 2 - (k + 1))) = W at *
  generalize hm95 : rm_i m81 135 k (nI (nbQ S X w p (S 2 - k))) = m95
  have f95 : ∀ x, x ≠ 135 → m95.1 x = m81.1 x := fun x h1 => by rw [← hm95]; funext i; rw [mi_get, if_neg (fun t => h1 t.1)]
  have g95 : ∀ x, m95.1 135 x = if x = k then nI (nbQ S X w p (S 2 - k)) else m81.1 135 x := fun x => by
    rw [← hm95, mi_get]
    by_cases e : x = k
    · rw [if_pos ⟨rfl, e⟩, if_pos e]
    · rw [if_neg (fun t => e t.2), if_neg e]
  have hfr : Kly m m95 := ⟨by rw [← hm95, mi_2]; exact a5, fun x h1 h2 h3 => by rw [f95 x h2, a6 x h1 h3]⟩
  have hT2 : TS S X w b k p m95 := by
    refine ⟨fun j h1 h2 => ?_, fun j h1 h2 => ?_⟩
    · by_cases e : j = k
      · subst e
        refine ⟨⟨by rw [pk]; exact hy, hpo, ?_⟩, fun t ht => ?_⟩
        · rw [f95 133 (by omega), a6 133 (by omega) (by omega), pk]; exact h133
        · rw [f95 136 (by omega)]; exact (a2 t ht).2
      · obtain ⟨⟨u1, u2, u3⟩, u4⟩ := t1 j (by omega) h2
        rw [pj j e]
        refine ⟨⟨u1, u2, ?_⟩, fun t ht => ?_⟩
        · rw [f95 133 (by omega), a6 133 (by omega) (by omega)]; exact u3
        · rw [xcQ_k (pj j e), f95 136 (by omega), a4 _ (fun i hi t => ?_)]
          · exact u4 t ht
          · rw [exc] at t
            exact absurd (fR_ne hD hF hk h2 (od_in w1 w2 hy hi) (od_in w1 w2 u1 ht) t).1 (fun t => e t.symm)
    · by_cases e : j = k
      · subst e
        refine ⟨fun c hc => ?_, by rw [g95, if_pos rfl]⟩
        obtain ⟨i, hi, hic⟩ := ch_ex hL hc
        rw [f95 134 (by omega), hsu, ← hic, nb4_Ho w1 w2 hL hi hf16]
        exact (a2 i hi).1
      · obtain ⟨u1, u2⟩ := t2 j (by omega) h2
        refine ⟨fun c hc => ?_, ?_⟩
        · rw [f95 134 (by omega), a3 _ (by omega), ← suQ_a (q := q) fun i hi => pa i (by omega)]; exact u1 c hc
        · rw [g95, if_neg e, a6 135 (by omega) (by omega), ← nbQ_a (q := q) fun i hi => pa i (by omega)]; exact u2
  have hnl : nbQ S X w p (S 2 - (k + 1)) < 1000 := by
    have : ∀ r, nbQ S X w p r ≤ 16 * r := fun r => by
      induction r with
      | zero => exact Nat.le_refl 0
      | succ r ih =>
        rw [nbQ]
        have : cnt (wrQ S X w p r) ≤ 16 := fb_ct_le _ _
        omega
    have := this (S 2 - (k + 1))
    omega
  have h137 : ∀ x, x < 16 → (S 3).testBit x = true → m95.1 137 x = nI (trR S X w x) ∧ trR S X w x < 4 := fun x hx hp => by
    obtain ⟨l, t, h1, h2, h3⟩ := SX_tr hX hF hx hp
    rw [← h3, tr_sp wg hD hF h1 h2, hfr.2 137 (by omega) (by omega) (by omega)]
    exact ⟨((hO l h1).2.1 t h2).2, by omega⟩
  have h136 : ∀ x, x < 16 → (S 3).testBit x = true → trR S X w x = k → m95.1 136 x = nI (plQ S X w b p k x) ∧ plQ S X w b p k x < 4 := fun x hx hp ht => by
    obtain ⟨l, t, h1, h2, h3⟩ := SX_tr hX hF hx hp
    have hlk : l = k := by rw [← h3, tr_sp wg hD hF h1 h2] at ht; exact ht
    subst hlk
    obtain ⟨s, hs, hso⟩ := od_sur w2 (show y < fac (S 1) by omega) h2
    have hxs : xcQ S X w p l s = x := by rw [exc, hso]; exact h3
    refine ⟨?_, Nat.lt_of_lt_of_le (Nat.mod_lt _ (by omega)) w2⟩
    unfold plQ
    rw [← hxs, ixf_sp w2 hfi hs, f95 136 (by omega)]
    exact (a2 s hs).2
  obtain ⟨a, c1, c2⟩ := clt_sp (nf := nf) (M := M) (k := k) (tr := trR S X w) (pl := plQ S X w b p k) (su := nb4 (suQ S X w p (S 2 - k))) (m := m95) (by omega) wg wc hk (by rw [hfr.2 116 (by omega) (by omega) (by omega)]; exact hz) hM (by rw [hfr.2 115 (by omega) (by omega) (by omega)]; exact g6) h137 h136 (fun c hc => ⟨(hT2.2 k (Nat.le_refl _) (by omega)).1 c hc, nb4_lt⟩)
  have hp15 : m95.1 115 = m.1 115 := hfr.2 115 (by omega) (by omega) (by omega)
  have hx115 : ∃ d : Bool, ((if (m95.1 115 11) = 0 then if nI W = 0 then some (1 : Int32) else some 0 else if (if puB S (suQ S X w p (S 2 - (k + 1))) (ldR S w b k) (xcQ S X w p k) pc (S 1) = true then (1 : Int32) else 0) = 0 then some 0 else if (m95.1 115 15) < 0 then some 1 else if rn_in (nI k) 5 = true then if (m95.1 135 (nI k).toNatClampNeg) < (m95.1 115 15) then some 1 else some 0 else none) : Option Int32) = some (if d = true then 1 else 0) ∧ (d = true ↔ if cn = true then (wrQ S X w p (S 2 - (k + 1))).testBit (4 * pc) = false ∧ (m.1 115 15 < 0 ∨ nI (nbQ S X w p (S 2 - k)) < m.1 115 15) else W = 0) := by
    rw [hp15, g11]
    cases cn with
    | false =>
      rw [if_pos (show (if false = true then (1 : Int32) else 0) = 0 by decide), if_neg (show ¬ false = true by decide)]
      by_cases e : W = 0
      · rw [if_pos (by rw [e]; rfl)]; exact ⟨true, rfl, fun _ => e, fun _ => rfl⟩
      · rw [if_neg (nI_ne0 (by omega) (by omega))]; exact ⟨false, rfl, fun h => absurd h (by decide), fun h => absurd h e⟩
    | true =>
      rw [if_neg (by decide), if_pos (show true = true from rfl)]
      by_cases e : puB S (suQ S X w p (S 2 - (k + 1))) (ldR S w b k) (xcQ S X w p k) pc (S 1) = true
      case neg =>
        rw [if_neg e, if_pos rfl]
        exact ⟨false, rfl, fun h => absurd h (by decide), fun h => absurd (hpu.mpr h.1) e⟩
      rw [if_pos e, if_neg (by decide)]
      by_cases e2 : m.1 115 15 < 0
      · rw [if_pos e2]; exact ⟨true, rfl, fun _ => ⟨hpu.mp e, Or.inl e2⟩, fun _ => rfl⟩
      rw [if_neg e2, if_pos ((in_n (by omega)).mpr (by omega)), nI_n (by omega), g95, if_pos rfl]
      by_cases e3 : nI (nbQ S X w p (S 2 - k)) < m.1 115 15
      · rw [if_pos e3]; exact ⟨true, rfl, fun _ => ⟨hpu.mp e, Or.inr e3⟩, fun _ => rfl⟩
      · rw [if_neg e3]; exact ⟨false, rfl, fun h => absurd h (by decide), fun h => h.2.elim (fun t => absurd t e2) (fun t => absurd t e3)⟩
  obtain ⟨d, d1, d2⟩ := hx115
  have ho0 := od_in w1 w2 hy (show 0 < S 1 by omega)
  refine ⟨m95, d && a, ?_, hT2, ?_, hfr⟩
  · rw [mo_layTrick, Option.bind_some, if_pos ((in_n (by omega)).mpr (by omega)), nI_n (by omega), h133, k24, pk_mul, nI_add, if_pos ((in_n (by omega)).mpr (by omega)), nI_n (by omega), o4 y hy hok, Option.bind_some, z1, show mo_ordered nf (nI (S 1)) (nI y) 0 m = some (nI (od (S 1) y 0), m) from ordered_sp (j := 0) (by omega) (by omega) w2 (by omega) (by omega), Option.bind_some]
    try simp only []
    rw [m4k, nI_add, if_pos ((in_n (by omega)).mpr (by omega)), nI_n (by omega), (o2 _ ho0).1, ← exc 0, mo_suitOf, Option.bind_some]
    try simp only []
    have hf0 := hf16 0 (by omega)
    rw [show nI (xcQ S X w p k 0) / 4 = nI (xcQ S X w p k 0 / 4) by rw [k4, pk_div (by omega) (by omega) (by omega)], show mo_layTrick_l53 (nI k) (nI (S 1)) (nI y) (nI (xcQ S X w p k 0 / 4)) nf 0 1 0 m = _ from a1, Option.bind_some]
    try simp only []
    rw [nI_1, if_pos ((in_n (by omega)).mpr (by omega)), if_pos ((in_n (by omega)).mpr (by omega)), nI_n (show k + 1 < 2 ^ 31 by omega), a6 135 (by omega) (by omega), t2b, eB, nI_add, ← hnb, hm95, Option.bind_some]
    rw [nI_n (show k < 2 ^ 31 by omega)] at d1
    rw [d1, Option.bind_some]
    cases d with
    | false => rw [if_pos (show (if false = true then (1 : Int32) else 0) = 0 by decide)]; rfl
    | true =>
      rw [if_neg (show ¬ (if true = true then (1 : Int32) else 0) = 0 by decide), c1, Option.bind_some]
      try simp only []
      cases a with
      | false => rfl
      | true => rfl
  · rw [Bool.and_eq_true, d2, c2]
    unfold LTp CTQ
    rw [eW]
