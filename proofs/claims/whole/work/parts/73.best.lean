/-! BEST: the reference's walk over all lines -/
theorem Wv_le {n fo tr ls b : Nat} : ∀ {r i : Nat} {f H : Nat → Nat}, Wv n fo tr ls b r i f H ≤ r
  | 0, _, _, _ => Nat.le_refl 0
  | r + 1, i, f, H => by
    rw [Wv]
    cases h : opf (decide (rpa n tr ls b f i % 2 = 0)) (lwm fo tr (sl n f i) (H (rpa n tr ls b f i))) (fun x => on n tr ls b (fu f i x) i + Wv n fo tr ls b r (i + 1) (fu f i x) (hu H (rpa n tr ls b f i) x)) 16 0 none with
    | none => exact Nat.zero_le _
    | some v =>
      obtain ⟨_, _, h3⟩ := opf_best h
      rcases h3 with h3 | ⟨y, _, _, _, h4⟩
      · cases h3
      · show v ≤ r + 1
        rw [← h4]
        have h1 : on n tr ls b (fu f i y) i ≤ 1 := by unfold on; split <;> omega
        have h2 := Wv_le (n := n) (fo := fo) (tr := tr) (ls := ls) (b := b) (r := r) (i := i + 1) (f := fu f i y) (H := hu H (rpa n tr ls b f i) y)
        show on n tr ls b (fu f i y) i + Wv n fo tr ls b r (i + 1) (fu f i y) (hu H (rpa n tr ls b f i) y) ≤ r + 1
        omega
/-- tricks from a on, over ahead of place i, that side 0 won -/
def ws (n tr ls b a i : Nat) (f : Nat → Nat) : Nat := fb_ct (fun k => decide (a ≤ k) && decide (rwn n tr ls b f k % 2 = 0)) (i / n)
theorem ws_step {n tr ls b a i : Nat} {f g : Nat → Nat} (hn : 2 ≤ n) (ha : a ≤ i / n) (h : ∀ j, j < n * (i / n) → g j = f j) : ws n tr ls b a (i + 1) g = ws n tr ls b a i f + on n tr ls b g i := by
  have hd := nx_div (i := i) hn
  have hd2 := md_s (x := i) (show 0 < n by omega)
  have e : fb_ct (fun k => decide (a ≤ k) && decide (rwn n tr ls b g k % 2 = 0)) (i / n) = fb_ct (fun k => decide (a ≤ k) && decide (rwn n tr ls b f k % 2 = 0)) (i / n) := by
    refine fb_ct_cong fun k hk => ?_
    rw [rwn_c (f := g) (g := f) (by omega) fun j hj => h j (by have := kn (n := n) hk; omega)]
  unfold ws on
  by_cases q : i % n + 1 < n
  · rw [if_pos q] at hd hd2
    rw [hd, e, if_neg (by omega), Nat.add_zero]
  · rw [if_neg q] at hd hd2
    rw [hd, fb_ct_succ, e]
    congr 1
    by_cases z : rwn n tr ls b g (i / n) % 2 = 0
    · rw [if_pos (by rw [decide_eq_true ha, decide_eq_true z]; rfl), if_pos ⟨hd2, z⟩]
    · rw [if_neg (by rw [decide_eq_false z, Bool.and_false]; decide), if_neg (fun y => z y.2)]
def Zm (n t fo tr ls b : Nat) (m : rn_Mem) : Prop := m.1 116 1 = nI n ∧ m.1 116 2 = nI t ∧ m.1 116 4 = zT tr ∧ m.1 116 5 = nI fo ∧ m.1 116 6 = nI ls ∧ m.1 116 88 = nI b
def aI (o : Option Nat) : Int32 := match o with
  | none => mI 4
  | some v => nI v
def aB (o : Option Nat) : Prop := ∀ v, o = some v → v < 100
def HS (n t fo tr ls b i : Nat) (f H : Nat → Nat) (M : Nat) (acc : Option Nat) (m : rn_Mem) : Prop := Zm n t fo tr ls b m ∧ (∀ j, j < i → m.1 142 j = nI (f j) ∧ f j < 16) ∧ (∀ c, c < n → m.1 143 c = nI (H c) ∧ H c < 65536) ∧ (∀ k, k ≤ i / n → m.1 139 k = nI (rl n tr ls b f k)) ∧ m.1 144 i = nI M ∧ m.1 145 i = aI acc ∧ iv n t tr ls b f H i
def Pbf (p : Nat) : Prop := p = 139 ∨ p = 140 ∨ p = 142 ∨ p = 143 ∨ p = 144 ∨ p = 145
/-- back from a place behind -/
def bkk (a1 : Int32) (n : Nat) (x65 x64 : Int32) (m : rn_Mem) : Option (Int32 × rn_Mem) :=
  (mo_findLeaders n 142 (m.1 116 88) x65 m).bind fun m66 =>
  (mo_playerAt n x65 m66).bind fun (r69, m68) =>
  if rn_in r69 4 = true then
    if rn_in x65 12 = true then
      if rn_in r69 4 = true then
        (some (rm_i m68 143 r69.toNatClampNeg ((m68.1 143 r69.toNatClampNeg) ||| ((1 : Int32) <<< ((m68.1 142 x65.toNatClampNeg) &&& 31))))).bind fun (m73 : rn_Mem) =>
        (mo_takeValue n x65 x64 m73).bind fun m75 =>
        mo_bestFrom_l80 a1 n x65 m75
      else none
    else none
  else none
theorem takeValue_sp {n tr ls b i nf v : Nat} {f : Nat → Nat} {m : rn_Mem} {acc : Option Nat} (hn : 2 ≤ n) (hn4 : n ≤ 4) (hb : b < n) (hi : i ≤ 12) (hin : i / n < 5) (z1 : m.1 116 1 = nI n) (hL : m.1 139 (i / n) = nI (rl n tr ls b f (i / n))) (ha : m.1 145 i = aI acc) (hacc : aB acc) (hv : v < 100) : mo_takeValue nf (nI i) (nI v) m = some (rm_i m 145 i (aI (opu (decide (rpa n tr ls b f i % 2 = 0)) acc v))) := by
  have hp := rpa_lt (tr := tr) (ls := ls) (b := b) (k := i) (f := f) (show 0 < n by omega)
  have h13 : rn_in (nI i) 13 = true := (in_n (by omega)).mpr (by omega)
  unfold mo_takeValue
  rw [playerAt_sp hn hn4 hb (by omega) hin z1 hL]
  simp only [Option.bind_some]
  rw [k2, rem_n (by omega) (by omega) (by omega)]
  simp only [if_pos h13]
  rw [nI_n (by omega), ha]
  cases acc with
  | none =>
    rw [show aI none = mI 4 from rfl]
    simp only [if_pos (show mI 4 < 0 by decide), Option.bind_some]
    by_cases q : nI (rpa n tr ls b f i % 2) = 0
    · rw [if_pos q]
      rfl
    · rw [if_neg q]
      rfl
  | some a =>
    have := hacc a rfl
    rw [show aI (some a) = nI a from rfl]
    have n0 : ¬ nI a < 0 := by rw [k0, nI_ltI (by omega) (by omega)]; omega
    simp only [if_neg n0]
    unfold opu
    by_cases q : rpa n tr ls b f i % 2 = 0
    · rw [if_pos (by rw [q]; rfl), decide_eq_true q]
      simp only [Option.bind_some, if_neg (show ¬ (1 : Int32) = 0 by decide), if_true]
      by_cases c : a < v
      · rw [if_pos ((nI_ltI (by omega) (by omega)).mpr c), if_pos c]
        rfl
      · rw [if_neg (mt (nI_ltI (by omega) (by omega)).mp c), if_neg c]
        rfl
    · rw [if_neg (nI_ne0 (by omega) (by omega)), decide_eq_false q]
      simp only [Option.bind_some, if_true, if_neg (show ¬ false = true by decide)]
      by_cases c : v < a
      · rw [if_pos ((nI_ltI (by omega) (by omega)).mpr c), if_pos c]
        rfl
      · rw [if_neg (mt (nI_ltI (by omega) (by omega)).mp c), if_neg c]
        rfl
