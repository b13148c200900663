/-! BEST: the reference's walk, the loop -/
theorem nxk {n t i : Nat} (hn : 2 ≤ n) (hi : i < n * t) : i / n < t := by
  rw [Nat.div_lt_iff_lt_mul (by omega), Nat.mul_comm]; exact hi
theorem cnt_zero {M : Nat} (hM : M < 65536) (h : cnt M = 0) : M = 0 := by
  apply Nat.eq_of_testBit_eq
  intro x
  rw [Nat.zero_testBit]
  by_cases hx : x < 16
  · exact fb_ct_zero.mp h x hx
  · exact bit_high (k := 16) (by omega) (by omega)
theorem cnt_le {A B : Nat} (h : ∀ x, x < 16 → A.testBit x = true → B.testBit x = true) : cnt A ≤ cnt B := fb_ct_sub h
/-- the value of the lines behind a card, as the walk counts it -/
def gv (n fo tr ls b a r i : Nat) (f H : Nat → Nat) (x : Nat) : Nat := ws n tr ls b a (i + 1) (fu f i x) + Wv n fo tr ls b r (i + 1) (fu f i x) (hu H (rpa n tr ls b f i) x)
theorem gv_opf {n fo tr ls b a r i : Nat} {f H : Nat → Nat} (hn : 2 ≤ n) (ha : a ≤ i / n) (hne : ∃ x, x < 16 ∧ (lwm fo tr (sl n f i) (H (rpa n tr ls b f i))).testBit x = true) : opf (decide (rpa n tr ls b f i % 2 = 0)) (lwm fo tr (sl n f i) (H (rpa n tr ls b f i))) (gv n fo tr ls b a r i f H) 16 0 none = some (ws n tr ls b a i f + Wv n fo tr ls b (r + 1) i f H) := by
  have e : gv n fo tr ls b a r i f H = fun x => ws n tr ls b a i f + (on n tr ls b (fu f i x) i + Wv n fo tr ls b r (i + 1) (fu f i x) (hu H (rpa n tr ls b f i) x)) := by
    funext x
    unfold gv
    rw [ws_step (f := f) (g := fu f i x) hn ha (fun j hj => fu_n (by have := Nat.div_add_mod i n; omega)), Nat.add_assoc]
  have h := opf_add (most := decide (rpa n tr ls b f i % 2 = 0)) (M := lwm fo tr (sl n f i) (H (rpa n tr ls b f i))) (g := fun x => on n tr ls b (fu f i x) i + Wv n fo tr ls b r (i + 1) (fu f i x) (hu H (rpa n tr ls b f i) x)) (d := ws n tr ls b a i f) (r := 16) (x := 0) (acc := none)
  obtain ⟨x, hx, hb⟩ := hne
  obtain ⟨v, hv⟩ := opf_some (most := decide (rpa n tr ls b f i % 2 = 0)) (M := lwm fo tr (sl n f i) (H (rpa n tr ls b f i))) (g := fun x => on n tr ls b (fu f i x) i + Wv n fo tr ls b r (i + 1) (fu f i x) (hu H (rpa n tr ls b f i) x)) (r := 16) (x := 0) (acc := none) (Or.inr ⟨x, by omega, by omega, hb⟩)
  rw [e, show (none : Option Nat) = (none : Option Nat).map (ws n tr ls b a i f + ·) from rfl, h, Wv, hv]
  rfl
theorem ws_le {n tr ls b a i : Nat} {f : Nat → Nat} : ws n tr ls b a i f ≤ i := Nat.le_trans (fb_ct_le _ _) (Nat.div_le_self _ _)
theorem gv_lt {n fo tr ls b a r i : Nat} {f H : Nat → Nat} {x : Nat} (h : i + (r + 1) ≤ 12) : gv n fo tr ls b a r i f H x < 100 := by
  unfold gv
  have h1 := ws_le (n := n) (tr := tr) (ls := ls) (b := b) (a := a) (i := i + 1) (f := fu f i x)
  have h2 := Wv_le (n := n) (fo := fo) (tr := tr) (ls := ls) (b := b) (r := r) (i := i + 1) (f := fu f i x) (H := hu H (rpa n tr ls b f i) x)
  omega
theorem opu_lt {most : Bool} {acc : Option Nat} {v : Nat} (ha : aB acc) (hv : v < 100) : aB (opu most acc v) := by
  intro w hw
  unfold opu at hw
  cases acc with
  | none =>
    injection hw with hw
    have hw' : v = w := hw
    omega
  | some a =>
    have := ha a rfl
    injection hw with hw
    subst hw
    show (if most = true then (if a < v then v else a) else (if v < a then v else a)) < 100
    split <;> split <;> omega
/-- what the walk leaves when it goes back from place i -/
def BK (n t fo tr ls b i : Nat) (f H : Nat → Nat) (m m2 : rn_Mem) : Prop := Zm n t fo tr ls b m2 ∧ (∀ j, j < i → m2.1 142 j = nI (f j)) ∧ (∀ c, c < n → m2.1 143 c = nI (H c)) ∧ (∀ j, j < i → m2.1 144 j = m.1 144 j ∧ m2.1 145 j = m.1 145 j) ∧ Kr Pbf m m2
theorem l80_end {n t fo tr ls b P i nf v : Nat} {f H : Nat → Nat} {m : rn_Mem} (hs : n * t ≤ 12) (hi : i < n * t) (hP : P ≤ i) (hS : HS n t fo tr ls b i f H 0 (some v) m) : mo_bestFrom_l80 (nI P) (nf + 1) (nI i) m = (if i = P then some (nI v, m) else bkk (nI P) nf (nI (i - 1)) (nI v) m) := by
  obtain ⟨⟨z1, z2, z4, z5, z6, z88⟩, hl, hh, hL, h4, h5, hiv⟩ := hS
  have h13 : rn_in (nI i) 13 = true := (in_n (by omega)).mpr (by omega)
  rw [mo_bestFrom_l80, if_pos h13, nI_n (by omega), h4, if_pos (show nI 0 = 0 from rfl)]
  by_cases q : i = P
  · subst q
    rw [if_pos rfl, if_pos h13, if_pos rfl, nI_n (by omega), h5]
    rfl
  · rw [if_neg (by rw [nI_eq (by omega) (by omega)]; exact q), if_pos h13, if_neg q, h5]
    simp only [Option.bind_some]
    rw [show nI i + (-1) = nI (i - 1) by rw [show i = (i - 1) + 1 by omega]; exact pk_m1 _]
    rfl
set_option maxHeartbeats 4000000 in
theorem l80_sp {n t fo tr ls b P : Nat} (hn : 2 ≤ n) (hn4 : n ≤ 4) (ht : t ≤ 4) (hs : n * t ≤ 12) (hb : b < n) (hls : ls < 2) (hfo : fo ≤ 2) : ∀ (r i : Nat), i + (r + 1) = n * t → P ≤ i → ∀ (c M : Nat) (f H : Nat → Nat) (acc : Option Nat) (m : rn_Mem) (nf : Nat), cnt M = c → HS n t fo tr ls b i f H M acc m → M < 65536 → (∀ x, x < 16 → M.testBit x = true → (H (rpa n tr ls b f i)).testBit x = true) → aB acc → (acc ≠ none ∨ 0 < c) → c * (BB n t r (i + 1) + 2) + 50 < nf → ∃ v nf2 m2, opf (decide (rpa n tr ls b f i % 2 = 0)) M (gv n fo tr ls b (P / n) r i f H) 16 0 acc = some v ∧ v < 100 ∧ nf ≤ nf2 + c * (BB n t r (i + 1) + 2) + 1 ∧ mo_bestFrom_l80 (nI P) nf (nI i) m = (if i = P then some (nI v, m2) else bkk (nI P) nf2 (nI (i - 1)) (nI v) m2) ∧ BK n t fo tr ls b i f H m m2 := by
  intro r
  induction r with
  | zero =>
    intro i hir hPi c
    induction c with
    | zero =>
      intro M f H acc m nf hc hS hM hsub hacc hne hnf
      obtain rfl := cnt_zero hM hc
      cases acc with
      | none => rcases hne with h | h <;> first | exact absurd rfl h | omega
      | some v =>
        obtain ⟨nf, rfl⟩ : ∃ e, nf = e + 1 := ⟨nf - 1, by omega⟩
        refine ⟨v, nf, m, opf_0, hacc v rfl, by omega, l80_end hs (by omega) hPi hS, ?_⟩
        obtain ⟨hz, hl, hh, hL, h4, h5, hiv⟩ := hS
        exact ⟨hz, fun j hj => (hl j hj).1, fun c hc => (hh c hc).1, fun j hj => ⟨rfl, rfl⟩, Kr.rf⟩
    | succ c ihc =>
      intro M f H acc m nf hc hS hM hsub hacc hne hnf
      have hnf' : (c + 1) * (BB n t 0 (i + 1) + 2) = c * (BB n t 0 (i + 1) + 2) + (BB n t 0 (i + 1) + 2) := Nat.succ_mul _ _
      obtain ⟨x, hx, hbx, hlow⟩ : ∃ x, x < 16 ∧ M.testBit x = true ∧ ∀ y, y < x → ¬ M.testBit y = true := fb_first (cnt_0 hM (by omega))
      have hlow : ∀ y, y < x → M.testBit y = false := fun y hy => by
        have := hlow y hy
        simpa using this
      obtain ⟨nf, rfl⟩ : ∃ e, nf = e + 1 := ⟨nf - 1, by omega⟩
      have hp := rpa_lt (tr := tr) (ls := ls) (b := b) (k := i) (f := f) (show 0 < n by omega)
      have hcard := l80_card (a1 := nI P) (nf := nf) (by omega) hn hn4 ht hs hb (by omega) hS hM hx hbx hlow _ rfl
      obtain ⟨⟨z1, z2, z4, z5, z6, z88⟩, hl, hh, hL, h4, h5, hiv⟩ := hS
      have hZ : Zm n t fo tr ls b m := ⟨z1, z2, z4, z5, z6, z88⟩
      generalize hm88 : rm_i (rm_i (rm_i m 144 i (nI (bd M (2 ^ x)))) 142 i (nI x)) 143 (rpa n tr ls b f i) (nI (bd (H (rpa n tr ls b f i)) (2 ^ x))) = m88 at hcard
      have e116 : m88.1 116 = m.1 116 := by
        rw [← hm88]; funext j
        rw [mi_get, if_neg (by omega), mi_get, if_neg (by omega), mi_get, if_neg (by omega)]
      have hl88 : ∀ j, j < i + 1 → m88.1 142 j = nI (fu f i x j) ∧ fu f i x j < 16 := by
        intro j hj
        rw [← hm88, mi_get, if_neg (by omega), mi_get]
        by_cases q : j = i
        · rw [if_pos ⟨rfl, q⟩, q, fu_s]; exact ⟨rfl, hx⟩
        · rw [if_neg (fun z => q z.2), mi_get, if_neg (by omega), fu_n q]; exact hl j (by omega)
      have hh88 : ∀ c, c < n → m88.1 143 c = nI (hu H (rpa n tr ls b f i) x c) := by
        intro c hc
        rw [← hm88, mi_get]
        unfold hu
        by_cases q : c = rpa n tr ls b f i
        · rw [if_pos ⟨rfl, q⟩, if_pos q, q]
        · rw [if_neg (fun z => q z.2), mi_get, if_neg (by omega), mi_get, if_neg (by omega), if_neg q]; exact (hh c hc).1
      have h4' : ∀ j, m88.1 144 j = if j = i then nI (bd M (2 ^ x)) else m.1 144 j := by
        intro j
        rw [← hm88, mi_get, if_neg (by omega), mi_get, if_neg (by omega), mi_get]
        by_cases q : j = i
        · rw [if_pos ⟨rfl, q⟩, if_pos q]
        · rw [if_neg (fun z => q z.2), if_neg q]
      have h5' : ∀ j, m88.1 145 j = m.1 145 j := by
        intro j
        rw [← hm88, mi_get, if_neg (by omega), mi_get, if_neg (by omega), mi_get, if_neg (by omega)]
      have k88 : Kr Pbf m m88 := by
        rw [← hm88]
        exact ((Kr.rf.sti (by unfold Pbf; omega)).sti (by unfold Pbf; omega)).sti (by unfold Pbf; omega)
      obtain ⟨m97, a1, a2, a3, a4⟩ := findLeaders_sp (q := 142) (P := i + 1) (n := n) (tr := tr) (ls := ls) (b := b) (nf := nf) (f := fu f i x) (m := m88) (by omega) hn hn4 (by omega) (by rw [hir, Nat.mul_div_cancel_left _ (by omega)]; exact ht) hls hb (by rw [al142]; omega) (by omega) (fun j hj => (hl88 j hj).2) (fun j hj => (hl88 j hj).1) (by rw [e116]; exact z1) (by rw [e116]; exact z4) (by rw [e116]; exact z6)
      have hid : (i + 1) / n = t := by rw [hir, Nat.mul_div_cancel_left _ (by omega)]
      rw [hid] at a2 a3
      have ko : ∀ q, ¬ Pfl q → m97.1 q = m88.1 q := fun q hq => (a4 q hq).1
      have e116' : m97.1 116 = m.1 116 := by rw [ko 116 (by unfold Pfl; omega), e116]
      have hPn : P / n ≤ t := by
        have := nxk (n := n) (t := t) (i := P) hn (by omega)
        omega
      have hsw := sideWins_sp (a := P / n) (t := t) (nf := nf) (w := rwn n tr ls b (fu f i x)) (m := m97) ht hPn (by omega) (by rw [e116']; exact z2) a3 (fun k hk => by have := rwn_lt (n := n) (tr := tr) (ls := ls) (b := b) (k := k) (f := fu f i x) (by omega); omega)
      have hval : fb_ct (fun k => decide (P / n ≤ k) && decide (rwn n tr ls b (fu f i x) k % 2 = 0)) t = gv n fo tr ls b (P / n) 0 i f H x := by
        unfold gv ws
        rw [hid]
        rfl
      rw [hval] at hsw
      have hg := gv_lt (n := n) (fo := fo) (tr := tr) (ls := ls) (b := b) (a := P / n) (r := 0) (i := i) (f := f) (H := H) (x := x) (by omega)
      have hrun : mo_bestFrom_l80 (nI P) (nf + 1) (nI i) m = bkk (nI P) nf (nI i) (nI (gv n fo tr ls b (P / n) 0 i f H x)) (rm_i m97 145 (i + 1) (nI (gv n fo tr ls b (P / n) 0 i f H x))) := by
        rw [hcard, if_neg (by rw [nI_ltI (by omega) (by omega)]; omega), a1]
        simp only [Option.bind_some]
        rw [e116', z1, if_pos (nI_ne0 (by omega) (by omega)), pk_div (by omega) (by omega) (by omega), hsw]
        simp only [Option.bind_some]
        rw [if_neg (by rw [nI_eq (by omega) (by omega)]; omega)]
      obtain ⟨m3, b1, b2, b3, b4, b5⟩ := back_sp (a1 := nI P) (nf := nf) (i := i) (x := x) (v := gv n fo tr ls b (P / n) 0 i f H x) (f := f) (H := H) (M1 := bd M (2 ^ x)) (acc := acc) (m := rm_i m97 145 (i + 1) (nI (gv n fo tr ls b (P / n) 0 i f H x))) (by omega) hn hn4 ht hs hb hls (by omega) hx (Zm_k hZ (by funext j; rw [mi_get, if_neg (by omega), e116'])) (by
        intro j hj
        rw [mi_get, if_neg (by omega), ko 142 (by unfold Pfl; omega)]
        exact hl88 j hj) (by
        intro c hc
        rw [mi_get, if_neg (by omega), ko 143 (by unfold Pfl; omega)]
        exact hh88 c hc) (fun c hc => (hh c hc).2) (hsub x hx hbx) (by
        rw [mi_get, if_neg (by omega), ko 144 (by unfold Pfl; omega), h4', if_pos rfl]) (by
        rw [mi_get, if_neg (by omega), ko 145 (by unfold Pfl; omega), h5', h5]) hacc hg hiv
      have hc1 : cnt (bd M (2 ^ x)) = c := by have := cnt_bd hx hbx; omega
      obtain ⟨v, nf2, m2, c1, c2, c3, c4, c5, c6, c7, c8, c9⟩ := ihc (bd M (2 ^ x)) f H _ m3 nf hc1 b2 (bd_lt (k := 16) hM) (fun y hy hz => hsub y hy (by rw [bd_bit, Bool.and_eq_true] at hz; exact hz.1)) (opu_lt hacc hg) (Or.inl (by unfold opu; intro z; cases z)) (by omega)
      refine ⟨v, nf2, m2, ?_, c2, by omega, by rw [hrun, b1, c4], c5, c6, c7, fun j hj => ?_, ?_⟩
      · rw [opf_low (x := x) hbx (by omega) (by omega) (fun y _ hy => hlow y hy)]
        exact c1
      · rw [(c8 j hj).1, (c8 j hj).2, b3, b4 j (by omega), mi_get, if_neg (by omega), mi_get, if_neg (by omega), ko 144 (by unfold Pfl; omega), ko 145 (by unfold Pfl; omega), h4', if_neg (by omega), h5']
        exact ⟨rfl, rfl⟩
      · refine Kr.tr ?_ (Kr.tr b5 c9)
        exact (k88.tr (a4.mono fun p hp => by unfold Pfl at hp; unfold Pbf; omega)).sti (by unfold Pbf; omega)
  | succ r ihr =>
    intro i hir hPi c
    induction c with
    | zero =>
      intro M f H acc m nf hc hS hM hsub hacc hne hnf
      obtain rfl := cnt_zero hM hc
      cases acc with
      | none => rcases hne with h | h <;> first | exact absurd rfl h | omega
      | some v =>
        obtain ⟨nf, rfl⟩ : ∃ e, nf = e + 1 := ⟨nf - 1, by omega⟩
        refine ⟨v, nf, m, opf_0, hacc v rfl, by omega, l80_end hs (by omega) hPi hS, ?_⟩
        obtain ⟨hz, hl, hh, hL, h4, h5, hiv⟩ := hS
        exact ⟨hz, fun j hj => (hl j hj).1, fun c hc => (hh c hc).1, fun j hj => ⟨rfl, rfl⟩, Kr.rf⟩
    | succ c ihc =>
      intro M f H acc m nf hc hS hM hsub hacc hne hnf
      have hnf' : (c + 1) * (BB n t (r + 1) (i + 1) + 2) = c * (BB n t (r + 1) (i + 1) + 2) + (BB n t (r + 1) (i + 1) + 2) := Nat.succ_mul _ _
      obtain ⟨x, hx, hbx, hlow⟩ : ∃ x, x < 16 ∧ M.testBit x = true ∧ ∀ y, y < x → ¬ M.testBit y = true := fb_first (cnt_0 hM (by omega))
      have hlow : ∀ y, y < x → M.testBit y = false := fun y hy => by
        have := hlow y hy
        simpa using this
      obtain ⟨nf, rfl⟩ : ∃ e, nf = e + 1 := ⟨nf - 1, by omega⟩
      have hp := rpa_lt (tr := tr) (ls := ls) (b := b) (k := i) (f := f) (show 0 < n by omega)
      have hcard := l80_card (a1 := nI P) (nf := nf) (by omega) hn hn4 ht hs hb (by omega) hS hM hx hbx hlow _ rfl
      obtain ⟨⟨z1, z2, z4, z5, z6, z88⟩, hl, hh, hL, h4, h5, hiv⟩ := hS
      have hZ : Zm n t fo tr ls b m := ⟨z1, z2, z4, z5, z6, z88⟩
      generalize hm88 : rm_i (rm_i (rm_i m 144 i (nI (bd M (2 ^ x)))) 142 i (nI x)) 143 (rpa n tr ls b f i) (nI (bd (H (rpa n tr ls b f i)) (2 ^ x))) = m88 at hcard
      have e116 : m88.1 116 = m.1 116 := by
        rw [← hm88]; funext j
        rw [mi_get, if_neg (by omega), mi_get, if_neg (by omega), mi_get, if_neg (by omega)]
      have hl88 : ∀ j, j < i + 1 → m88.1 142 j = nI (fu f i x j) ∧ fu f i x j < 16 := by
        intro j hj
        rw [← hm88, mi_get, if_neg (by omega), mi_get]
        by_cases q : j = i
        · rw [if_pos ⟨rfl, q⟩, q, fu_s]; exact ⟨rfl, hx⟩
        · rw [if_neg (fun z => q z.2), mi_get, if_neg (by omega), fu_n q]; exact hl j (by omega)
      have hh88 : ∀ c, c < n → m88.1 143 c = nI (hu H (rpa n tr ls b f i) x c) := by
        intro c hc
        rw [← hm88, mi_get]
        unfold hu
        by_cases q : c = rpa n tr ls b f i
        · rw [if_pos ⟨rfl, q⟩, if_pos q, q]
        · rw [if_neg (fun z => q z.2), mi_get, if_neg (by omega), mi_get, if_neg (by omega), if_neg q]; exact (hh c hc).1
      have hhb : ∀ c, c < n → hu H (rpa n tr ls b f i) x c < 65536 := by
        intro c hc
        unfold hu
        split
        · exact bd_lt (k := 16) (hh c hc).2
        · exact (hh c hc).2
      have h4' : ∀ j, m88.1 144 j = if j = i then nI (bd M (2 ^ x)) else m.1 144 j := by
        intro j
        rw [← hm88, mi_get, if_neg (by omega), mi_get, if_neg (by omega), mi_get]
        by_cases q : j = i
        · rw [if_pos ⟨rfl, q⟩, if_pos q]
        · rw [if_neg (fun z => q z.2), if_neg q]
      have h5' : ∀ j, m88.1 145 j = m.1 145 j := by
        intro j
        rw [← hm88, mi_get, if_neg (by omega), mi_get, if_neg (by omega), mi_get, if_neg (by omega)]
      have k88 : Kr Pbf m m88 := by
        rw [← hm88]
        exact ((Kr.rf.sti (by unfold Pbf; omega)).sti (by unfold Pbf; omega)).sti (by unfold Pbf; omega)
      have hbH := hsub x hx hbx
      have hdm := Nat.div_add_mod i n
      have hiv2 : iv n t tr ls b (fu f i x) (hu H (rpa n tr ls b f i) x) (i + 1) := by
        refine (iv_step hn hb (fun j hj => fu_n (by omega)) ?_).mp hiv
        intro c hc
        unfold hu
        by_cases q : c = rpa n tr ls b f i
        · rw [if_pos q, if_pos q, q, cnt_bd hx hbH]
        · rw [if_neg q, if_neg q, Nat.add_zero]
      obtain ⟨m95, a1, a2, a3, a4, a5⟩ := comeTo_sp (nf := nf) (i := i + 1) (f := fu f i x) (H := hu H (rpa n tr ls b f i) x) (m := m88) (by omega) hn hn4 ht hs hb hls hfo (by omega) (Zm_k hZ e116) hl88 (fun c hc => ⟨hh88 c hc, hhb c hc⟩) hiv2
      have hp2 := rpa_lt (tr := tr) (ls := ls) (b := b) (k := i + 1) (f := fu f i x) (show 0 < n by omega)
      have hmv := iv_mover hn hb hiv2
      have hk2 := nxk (n := n) (t := t) (i := i + 1) hn (by omega)
      have hHp2 := hhb _ hp2
      have hne2 := lwm_ne (fo := fo) (tr := tr) (s := sl n (fu f i x) (i + 1)) hHp2 (by omega)
      have hlw := lwm_lt (fo := fo) (tr := tr) (s := sl n (fu f i x) (i + 1)) hHp2
      have hsub2 : ∀ y, y < 16 → (lwm fo tr (sl n (fu f i x) (i + 1)) (hu H (rpa n tr ls b f i) x (rpa n tr ls b (fu f i x) (i + 1)))).testBit y = true → (hu H (rpa n tr ls b f i) x (rpa n tr ls b (fu f i x) (i + 1))).testBit y = true := by
        intro y hy hz
        rw [lwm_bit hy, Bool.and_eq_true] at hz
        exact hz.1
      have hcle := cnt_le hsub2
      have hBB : BB n t (r + 1) (i + 1) = (t - (i + 1) / n) * (BB n t r (i + 1 + 1) + 2) := rfl
      have hcost : cnt (lwm fo tr (sl n (fu f i x) (i + 1)) (hu H (rpa n tr ls b f i) x (rpa n tr ls b (fu f i x) (i + 1)))) * (BB n t r (i + 1 + 1) + 2) ≤ BB n t (r + 1) (i + 1) := by
        rw [hBB]
        exact Nat.mul_le_mul_right _ (by omega)
      have hcp : 0 < cnt (lwm fo tr (sl n (fu f i x) (i + 1)) (hu H (rpa n tr ls b f i) x (rpa n tr ls b (fu f i x) (i + 1)))) := fb_ct_pos.mpr hne2
      obtain ⟨v', nf2', m2', d1, d2, d3, d4, d5, d6, d7, d8, d9⟩ := ihr (i + 1) (by omega) (by omega) _ _ (fu f i x) (hu H (rpa n tr ls b f i) x) none m95 nf rfl a2 hlw hsub2 (fun v hv => by cases hv) (Or.inr hcp) (by omega)
      rw [gv_opf hn (Nat.div_le_div_right (by omega)) hne2] at d1
      have hv' : v' = gv n fo tr ls b (P / n) (r + 1) i f H x := by
        injection d1 with d1
        exact d1.symm
      subst hv'
      have hrun : mo_bestFrom_l80 (nI P) (nf + 1) (nI i) m = bkk (nI P) nf2' (nI i) (nI (gv n fo tr ls b (P / n) (r + 1) i f H x)) m2' := by
        rw [hcard, if_pos (by rw [nI_ltI (by omega) (by omega)]; omega), a1]
        simp only [Option.bind_some]
        rw [d4, if_neg (by omega)]
        rfl
      obtain ⟨m3, b1, b2, b3, b4, b5⟩ := back_sp (a1 := nI P) (nf := nf2') (i := i) (x := x) (v := gv n fo tr ls b (P / n) (r + 1) i f H x) (f := f) (H := H) (M1 := bd M (2 ^ x)) (acc := acc) (m := m2') (by omega) hn hn4 ht hs hb hls (by omega) hx d5 (fun j hj => ⟨d6 j hj, (hl88 j hj).2⟩) d7 (fun c hc => (hh c hc).2) hbH (by
        rw [(d8 i (by omega)).1, (a3 i (by omega)).1, h4', if_pos rfl]) (by
        rw [(d8 i (by omega)).2, (a3 i (by omega)).2, h5', h5]) hacc d2 hiv
      have hc1 : cnt (bd M (2 ^ x)) = c := by have := cnt_bd hx hbx; omega
      obtain ⟨v, nf2, m2, c1, c2, c3, c4, c5, c6, c7, c8, c9⟩ := ihc (bd M (2 ^ x)) f H _ m3 nf2' hc1 b2 (bd_lt (k := 16) hM) (fun y hy hz => hsub y hy (by rw [bd_bit, Bool.and_eq_true] at hz; exact hz.1)) (opu_lt hacc d2) (Or.inl (by unfold opu; intro z; cases z)) (by omega)
      refine ⟨v, nf2, m2, ?_, c2, by omega, by rw [hrun, b1, c4], c5, c6, c7, fun j hj => ?_, ?_⟩
      · rw [opf_low (x := x) hbx (by omega) (by omega) (fun y _ hy => hlow y hy)]
        exact c1
      · rw [(c8 j hj).1, (c8 j hj).2, b3, b4 j (by omega), (d8 j (by omega)).1, (d8 j (by omega)).2, (a3 j (by omega)).1, (a3 j (by omega)).2, h4', if_neg (by omega), h5']
        exact ⟨rfl, rfl⟩
      · exact k88.tr (a5.tr (d9.tr (b5.tr c9)))
