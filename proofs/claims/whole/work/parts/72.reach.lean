/-! BEST: the class's search between bounds -/
def Gm (n t fo tr ls : Nat) (m : rn_Mem) : Prop := m.1 4 1 = nI n ∧ m.1 4 2 = nI t ∧ m.1 4 4 = cT tr ∧ m.1 4 5 = nI fo ∧ m.1 4 6 = nI ls
theorem Gm_k {n t fo tr ls : Nat} {m : rn_Mem} (h : Gm n t fo tr ls m) (p i : Nat) (x : Int32) (hp : p ≠ 4) : Gm n t fo tr ls (rm_i m p i x) := by
  unfold Gm at *
  simp only [mi_get, if_neg (fun z : 4 = p ∧ _ => hp z.1.symm)]
  exact h
def AB (v : Nat) (lo hi r : Int32) (R : Nat) : Prop := (r.toInt < hi.toInt → (v : Int) ≤ r.toInt) ∧ (lo.toInt < r.toInt → r.toInt ≤ v) ∧ -1 ≤ r.toInt ∧ r.toInt ≤ 99 + R
def RC (nf n t fo tr ls b k r : Nat) : Prop := ∀ (i : Nat) (f H : Nat → Nat) (m : rn_Mem) (lo hi : Int32), i + r = n * t → Gm n t fo tr ls m → (∀ c, c < n → m.1 103 c = nI (H c) ∧ H c < 65536) → (∀ j, j < i → f j < 16) → iv n t tr ls b f H i → lo.toInt < hi.toInt → -1 - (i : Int) ≤ lo.toInt → hi.toInt ≤ 99 → ∃ v, ju_reach nf k 4 (nI i) (nI (rpa n tr ls b f i)) (jo n tr (rl n tr ls b f (i / n)) (fun j => f (n * (i / n) + j)) (i % n)) lo hi m = some (v, m) ∧ AB (Wv n fo tr ls b r i f H) lo hi v r
theorem jo_c {n tr L : Nat} {f g : Nat → Nat} {j : Nat} (h : ∀ i, i < j → f i = g i) : jo n tr L f j = jo n tr L g j := by
  cases j with
  | zero => rfl
  | succ j =>
    show nI (jc n tr L f j) = nI (jc n tr L g j)
    have hw := wp_le tr g j
    unfold jc
    rw [wp_c (f := f) (g := g) fun i hi => h i (by omega), h (wp tr g j) (by omega), h 0 (by omega)]
theorem nx_div {i n : Nat} (hn : 2 ≤ n) : (i + 1) / n = if i % n + 1 < n then i / n else i / n + 1 := by
  have hm := Nat.mod_lt i (show n > 0 by omega)
  have := Nat.div_add_mod i n
  split
  · rename_i q
    rw [← this, Nat.add_assoc, Nat.mul_add_div (by omega), Nat.div_eq_of_lt q, Nat.mul_add_div (by omega), Nat.div_eq_of_lt hm]
  · rw [← this, Nat.add_assoc, show i % n + 1 = n by omega, Nat.mul_add_div (by omega), Nat.div_self (by omega), Nat.mul_add_div (by omega), Nat.div_eq_of_lt hm]
theorem behind_sp {nf nf2 n t fo tr ls b k r i x : Nat} {f H : Nat → Nat} {m : rn_Mem} {lo hi : Int32} (hn : 2 ≤ n) (hn4 : n ≤ 4) (hs : n * t ≤ 12) (hb : b < n) (hls : ls < 2) (rc : RC nf n t fo tr ls b k r) (hir : i + (r + 1) = n * t) (hG : Gm n t fo tr ls m) (hH : ∀ c, c < n → m.1 103 c = nI (H c) ∧ H c < 65536) (hf : ∀ j, j < i + 1 → fu f i x j < 16) (hiv : iv n t tr ls b (fu f i x) H (i + 1)) (h1 : lo.toInt < hi.toInt) (h2 : -1 - (i : Int) ≤ lo.toInt) (h3 : hi.toInt ≤ 99) : ∃ v, ju_reachBehind (ju_reach nf k) nf2 4 (nI i) (nI (rpa n tr ls b f i)) (jo n tr (rl n tr ls b f (i / n)) (fun j => fu f i x (n * (i / n) + j)) (i % n + 1)) lo hi m = some (v, m) ∧ AB (on n tr ls b (fu f i x) i + Wv n fo tr ls b r (i + 1) (fu f i x) H) lo hi v (r + 1) := by
  obtain ⟨g1, g2, g4, g5, g6⟩ := hG
  have hG : Gm n t fo tr ls m := ⟨g1, g2, g4, g5, g6⟩
  have hm := Nat.mod_lt i (show n > 0 by omega)
  have hdm := Nat.div_add_mod i n
  have hL := rl_lt (tr := tr) (ls := ls) (f := f) (show 0 < n by omega) hb (i / n)
  have eL : rl n tr ls b (fu f i x) (i / n) = rl n tr ls b f (i / n) := rl_c fun j hj => fu_n (by omega)
  have hd := nx_div (i := i) hn
  have hd2 := md_s (x := i) (show 0 < n by omega)
  have hn0 : ¬ nI n = 0 := nI_ne0 (by omega) (by omega)
  have hnext : ga_next nf2 4 (nI (rpa n tr ls b f i)) m = some (nI ((rl n tr ls b f (i / n) + i % n + 1) % n), m) := ga_next_sp (x := rl n tr ls b f (i / n) + i % n) (by omega) hn4 g1
  unfold ju_reachBehind
  rw [hnext]
  simp only [Option.bind_some]
  rw [g1, if_pos hn0, nI_1, rem_n (by omega) (by omega) (by omega)]
  by_cases q : i % n + 1 < n
  · rw [if_pos q] at hd hd2
    have q0 : ¬ (i + 1) % n = 0 := by omega
    rw [if_neg (nI_ne0 (by omega) (by have := Nat.mod_lt (i + 1) (show n > 0 by omega); omega))]
    obtain ⟨v, v1, v2, v3, v4, v5⟩ := rc (i + 1) (fu f i x) H m lo hi (by omega) hG hH hf hiv h1 (by omega) h3
    have ep : rpa n tr ls b (fu f i x) (i + 1) = (rl n tr ls b f (i / n) + i % n + 1) % n := by
      unfold rpa
      rw [hd, hd2, eL, Nat.add_assoc]
    rw [ep, hd, hd2, eL] at v1
    refine ⟨v, by rw [v1]; rfl, ?_⟩
    rw [show on n tr ls b (fu f i x) i = 0 by unfold on; rw [if_neg (fun z => q0 z.1)], Nat.zero_add]
    exact ⟨v2, v3, v4, by omega⟩
  · rw [if_neg q] at hd hd2
    rw [hd2, if_pos (show nI 0 = 0 from rfl), show i % n + 1 = n by omega]
    have hwin : ga_winnerOf nf2 (jo n tr (rl n tr ls b f (i / n)) (fun j => fu f i x (n * (i / n) + j)) n) m = some (nI (rwn n tr ls b (fu f i x) (i / n)), m) := by
      have e : jo n tr (rl n tr ls b f (i / n)) (fun j => fu f i x (n * (i / n) + j)) n = nI (jc n tr (rl n tr ls b f (i / n)) (fun j => fu f i x (n * (i / n) + j)) (n - 1)) := by
        rw [show n = (n - 1) + 1 by omega]
        rfl
      rw [e, jc_win (by omega) hn4 (fun j hj => hf _ (by omega))]
      unfold rwn
      rw [eL]
    rw [hwin]
    simp only [Option.bind_some]
    have hw := rwn_lt (tr := tr) (ls := ls) (b := b) (k := i / n) (f := fu f i x) (show 0 < n by omega)
    obtain ⟨w, w1, w2, w3⟩ : ∃ w, w ≤ 1 ∧ on n tr ls b (fu f i x) i = w ∧ (if rn_rem (nI (rwn n tr ls b (fu f i x) (i / n))) 2 = 0 then some (1 : Int32) else some 0) = some (nI w) := by
      rw [k2, rem_n (by omega) (by omega) (by omega)]
      unfold on
      by_cases z : rwn n tr ls b (fu f i x) (i / n) % 2 = 0
      · refine ⟨1, by omega, by rw [if_pos ⟨hd2, z⟩], ?_⟩
        rw [if_pos (by rw [z]; rfl)]
        rfl
      · refine ⟨0, by omega, by rw [if_neg (fun y => z y.2)], ?_⟩
        rw [if_neg (nI_ne0 (by omega) (by omega))]
        rfl
    rw [w3]
    simp only [Option.bind_some]
    have hld : (if nI ls = 0 then some (nI (rwn n tr ls b (fu f i x) (i / n)), m) else (ga_next nf2 4 (nI ((rl n tr ls b f (i / n) + i % n + 1) % n)) m).bind fun (r17, m16) => some (r17, m16)) = some (nI (rl n tr ls b (fu f i x) (i / n + 1)), m) := by
      rw [rl]
      by_cases z : ls = 0
      · rw [if_pos (by rw [z]; rfl), if_pos z]
        rfl
      · rw [if_neg (nI_ne0 (by omega) (by omega)), if_neg z, ga_next_sp (x := rl n tr ls b f (i / n) + i % n + 1) (by omega) hn4 g1, eL, show rl n tr ls b f (i / n) + i % n + 1 + 1 = rl n tr ls b f (i / n) + 1 + n by omega, Nat.add_mod_right]
        rfl
    rw [g6, hld]
    simp only [Option.bind_some]
    have slo : (lo - nI w).toInt = lo.toInt - w := by rw [fb_subI (by rw [nI_int (by omega)]; omega) (by rw [nI_int (by omega)]; omega), nI_int (by omega)]
    have shi : (hi - nI w).toInt = hi.toInt - w := by rw [fb_subI (by rw [nI_int (by omega)]; omega) (by rw [nI_int (by omega)]; omega), nI_int (by omega)]
    obtain ⟨v, v1, v2, v3, v4, v5⟩ := rc (i + 1) (fu f i x) H m (lo - nI w) (hi - nI w) (by omega) hG hH hf hiv (by omega) (by omega) (by omega)
    have ep : rpa n tr ls b (fu f i x) (i + 1) = rl n tr ls b (fu f i x) (i / n + 1) := by
      unfold rpa
      rw [hd, hd2, Nat.add_zero, Nat.mod_eq_of_lt (rl_lt (by omega) hb _)]
    rw [ep, hd2, show jo n tr (rl n tr ls b (fu f i x) ((i + 1) / n)) (fun j => fu f i x (n * ((i + 1) / n) + j)) 0 = -1 from mi1.symm] at v1
    rw [v1]
    refine ⟨nI w + v, rfl, ?_⟩
    have sv : (nI w + v).toInt = w + v.toInt := by rw [fb_addI (by rw [nI_int (by omega)]; omega) (by rw [nI_int (by omega)]; omega), nI_int (by omega)]
    rw [w2]
    unfold AB
    rw [sv]
    refine ⟨fun z => ?_, fun z => ?_, by omega, by omega⟩
    · have := v2 (by omega)
      omega
    · have := v3 (by omega)
      omega
/-- a node: chair p at place i with hand H p -/
theorem node_skip {nf nf2 n t fo tr ls k i x : Nat} {P Hp s : Nat} {so lo hi best a7 : Int32} {m : rn_Mem} (hG : Gm n t fo tr ls m) (hfo : fo ≤ 2) (hx : x < 16) (hHp : Hp < 65536) (hsc : sc so s) (hb : (lwm fo tr s Hp).testBit x = false) (hlt : lo < hi) : ju_reach_l47 (ju_reach nf k) 4 (nI i) (nI P) so a7 (nI Hp) (nf2 + 1) lo hi best (nI x) m = ju_reach_l47 (ju_reach nf k) 4 (nI i) (nI P) so a7 (nI Hp) nf2 lo hi best (nI (x + 1)) m := by
  rw [ju_reach_l47, if_pos (by rw [k16, nI_ltI (by omega) (by omega)]; exact hx), if_pos hlt]
  rw [lwm_bit hx] at hb
  simp only [bit_0 (show Hp < 2 ^ 31 by omega) (show x < 32 by omega)]
  cases q : Hp.testBit x with
  | false =>
    rw [if_pos rfl]
    simp only [Option.bind_some, nI_1]
  | true =>
    rw [q, Bool.true_and] at hb
    rw [if_neg (show ¬ true = false by decide), ga_lets_sp hx hHp hfo hsc hG.2.2.1 hG.2.2.2.1, hb]
    simp only [Option.bind_some, if_neg (show ¬ false = true by decide), if_true, nI_1]
theorem node_take {nf nf2 n t fo tr ls b k r i x : Nat} {f H : Nat → Nat} {so lo hi best a7 : Int32} {m : rn_Mem} {y : Int32} (hn : 2 ≤ n) (hn4 : n ≤ 4) (hs : n * t ≤ 12) (hb : b < n) (hls : ls < 2) (hfo : fo ≤ 2) (rc : RC nf n t fo tr ls b k r) (hir : i + (r + 1) = n * t) (hG : Gm n t fo tr ls m) (hH : ∀ c, c < n → m.1 103 c = nI (H c) ∧ H c < 65536) (hf : ∀ j, j < i → f j < 16) (hiv : iv n t tr ls b f H i) (hso : so = jo n tr (rl n tr ls b f (i / n)) (fun j => f (n * (i / n) + j)) (i % n)) (hx : x < 16) (hbit : (lwm fo tr (sl n f i) (H (rpa n tr ls b f i))).testBit x = true) (hlt : lo.toInt < hi.toInt) (h2 : -1 - (i : Int) ≤ lo.toInt) (h3 : hi.toInt ≤ 99) : ∃ v, AB (on n tr ls b (fu f i x) i + Wv n fo tr ls b r (i + 1) (fu f i x) (hu H (rpa n tr ls b f i) x)) lo hi v (r + 1) ∧ ju_reach_l47 (ju_reach nf k) 4 (nI i) (nI (rpa n tr ls b f i)) so a7 (nI (H (rpa n tr ls b f i))) (nf2 + 1) lo hi best (nI x) (rm_i m 103 (rpa n tr ls b f i) y) = if a7 = 0 then ju_reach_l47 (ju_reach nf k) 4 (nI i) (nI (rpa n tr ls b f i)) so a7 (nI (H (rpa n tr ls b f i))) nf2 lo (if (if v < best then v else best) < hi then (if v < best then v else best) else hi) (if v < best then v else best) (nI (x + 1)) (rm_i m 103 (rpa n tr ls b f i) (nI (bd (H (rpa n tr ls b f i)) (2 ^ x)))) else ju_reach_l47 (ju_reach nf k) 4 (nI i) (nI (rpa n tr ls b f i)) so a7 (nI (H (rpa n tr ls b f i))) nf2 (if lo < (if best < v then v else best) then (if best < v then v else best) else lo) hi (if best < v then v else best) (nI (x + 1)) (rm_i m 103 (rpa n tr ls b f i) (nI (bd (H (rpa n tr ls b f i)) (2 ^ x)))) := by
  have hp := rpa_lt (tr := tr) (ls := ls) (b := b) (k := i) (f := f) (show 0 < n by omega)
  have hHp := (hH _ hp).2
  have hm := Nat.mod_lt i (show n > 0 by omega)
  have hdm := Nat.div_add_mod i n
  have hG2 : ∀ z, Gm n t fo tr ls (rm_i m 103 (rpa n tr ls b f i) z) := fun z => Gm_k hG 103 _ z (by omega)
  have hsc : sc so (sl n f i) := by
    rw [hso]
    exact sc_jo (by omega) hn4 (fun j hj => hf _ (by omega))
  have hbits := hbit
  rw [lwm_bit hx, Bool.and_eq_true] at hbits
  have hH2 : ∀ c, c < n → (rm_i m 103 (rpa n tr ls b f i) (nI (bd (H (rpa n tr ls b f i)) (2 ^ x)))).1 103 c = nI (hu H (rpa n tr ls b f i) x c) ∧ hu H (rpa n tr ls b f i) x c < 65536 := by
    intro c hc
    rw [mi_get]
    unfold hu
    by_cases z : c = rpa n tr ls b f i
    · rw [if_pos ⟨rfl, z⟩, if_pos z, z]
      exact ⟨rfl, bd_lt (k := 16) hHp⟩
    · rw [if_neg (fun w => z w.2), if_neg z]
      exact hH c hc
  have hiv2 : iv n t tr ls b (fu f i x) (hu H (rpa n tr ls b f i) x) (i + 1) := by
    refine (iv_step hn hb (fun j hj => fu_n (by omega)) (fun c hc => ?_)).mp hiv
    unfold hu
    by_cases z : c = rpa n tr ls b f i
    · rw [if_pos z, if_pos z, z]
      exact (cnt_bd hx hbits.1).symm
    · rw [if_neg z, if_neg z, Nat.add_zero]
  have hf2 : ∀ j, j < i + 1 → fu f i x j < 16 := by
    intro j hj
    by_cases z : j = i
    · rw [z, fu_s]
      exact hx
    · rw [fu_n z]
      exact hf j (by omega)
  obtain ⟨v, v1, v2⟩ := behind_sp (nf2 := nf2) hn hn4 hs hb hls rc hir (hG2 (nI (bd (H (rpa n tr ls b f i)) (2 ^ x)))) hH2 hf2 hiv2 hlt h2 h3
  refine ⟨v, v2, ?_⟩
  have hjo : so = jo n tr (rl n tr ls b f (i / n)) (fun j => fu f i x (n * (i / n) + j)) (i % n) := by
    rw [hso]
    exact jo_c fun j hj => (fu_n (by omega)).symm
  have hjoin : ga_join nf2 4 so (nI (rpa n tr ls b f i)) (nI x) (rm_i m 103 (rpa n tr ls b f i) (nI (bd (H (rpa n tr ls b f i)) (2 ^ x)))) = some (jo n tr (rl n tr ls b f (i / n)) (fun j => fu f i x (n * (i / n) + j)) (i % n + 1), rm_i m 103 (rpa n tr ls b f i) (nI (bd (H (rpa n tr ls b f i)) (2 ^ x)))) := by
    have := ga_join_sp (n := nf2) (g := 4) (j := i % n) (k := n) (tr := tr) (L := rl n tr ls b f (i / n)) (f := fun j => fu f i x (n * (i / n) + j)) (m := rm_i m 103 (rpa n tr ls b f i) (nI (bd (H (rpa n tr ls b f i)) (2 ^ x)))) (by omega) hn4 (fun j hj => hf2 _ (by omega)) (hG2 _).2.2.1
    rw [← hjo, show n * (i / n) + i % n = i from hdm, fu_s] at this
    exact this
  rw [ju_reach_l47, if_pos (by rw [k16, nI_ltI (by omega) (by omega)]; exact hx), if_pos (i_lt.mpr hlt)]
  simp only [bit_0 (show H (rpa n tr ls b f i) < 2 ^ 31 by omega) (show x < 32 by omega)]
  rw [if_neg (by rw [hbits.1]; decide), ga_lets_sp hx hHp hfo hsc (hG2 y).2.2.1 (hG2 y).2.2.2.1, if_pos hbits.2]
  simp only [Option.bind_some]
  rw [if_neg (by decide), if_pos ((in_n (by omega)).mpr (by omega)), nI_n (by omega), shl_1 (by omega), bd_n, mi_mi, hjoin]
  simp only [Option.bind_some]
  rw [v1]
  simp only [Option.bind_some, nI_1]
  unfold ja_min ja_max
  by_cases z : a7 = 0
  · simp only [if_pos z]
    by_cases c1 : v < best
    · simp only [if_pos c1, Option.bind_some]
      by_cases c2 : v < hi
      · simp only [if_pos c2, Option.bind_some]
      · simp only [if_neg c2, Option.bind_some]
    · simp only [if_neg c1, Option.bind_some]
      by_cases c2 : best < hi
      · simp only [if_pos c2, Option.bind_some]
      · simp only [if_neg c2, Option.bind_some]
  · simp only [if_neg z]
    by_cases c1 : best < v
    · simp only [if_pos c1, Option.bind_some]
      by_cases c2 : lo < v
      · simp only [if_pos c2, Option.bind_some]
      · simp only [if_neg c2, Option.bind_some]
    · simp only [if_neg c1, Option.bind_some]
      by_cases c2 : lo < best
      · simp only [if_pos c2, Option.bind_some]
      · simp only [if_neg c2, Option.bind_some]
theorem lmax_sp {nf n t fo tr ls b k r i : Nat} {f H : Nat → Nat} {so lo0 hi : Int32} {m : rn_Mem} {V : Nat} (hn : 2 ≤ n) (hn4 : n ≤ 4) (hs : n * t ≤ 12) (hb : b < n) (hls : ls < 2) (hfo : fo ≤ 2) (rc : RC nf n t fo tr ls b k r) (hir : i + (r + 1) = n * t) (hG : Gm n t fo tr ls m) (hH : ∀ c, c < n → m.1 103 c = nI (H c) ∧ H c < 65536) (hf : ∀ j, j < i → f j < 16) (hiv : iv n t tr ls b f H i) (hso : so = jo n tr (rl n tr ls b f (i / n)) (fun j => f (n * (i / n) + j)) (i % n)) (hlt0 : lo0.toInt < hi.toInt) (h2 : -1 - (i : Int) ≤ lo0.toInt) (h3 : hi.toInt ≤ 99) (hV : ∀ x, x < 16 → (lwm fo tr (sl n f i) (H (rpa n tr ls b f i))).testBit x = true → on n tr ls b (fu f i x) i + Wv n fo tr ls b r (i + 1) (fu f i x) (hu H (rpa n tr ls b f i) x) ≤ V) : ∀ (s x nf2 : Nat) (lo best y : Int32), x + s = 16 → s < nf2 → (lo0.toInt ≤ lo.toInt ∧ lo.toInt ≤ (if lo0.toInt < best.toInt then best.toInt else lo0.toInt)) → (lo0.toInt < best.toInt → best.toInt ≤ V) → (best.toInt < hi.toInt → ∀ z, z < x → (lwm fo tr (sl n f i) (H (rpa n tr ls b f i))).testBit z = true → ((on n tr ls b (fu f i z) i + Wv n fo tr ls b r (i + 1) (fu f i z) (hu H (rpa n tr ls b f i) z) : Nat) : Int) ≤ best.toInt) → -1 ≤ best.toInt → best.toInt ≤ 99 + (r + 1 : Nat) → ∃ best2 y2, ju_reach_l47 (ju_reach nf k) 4 (nI i) (nI (rpa n tr ls b f i)) so 1 (nI (H (rpa n tr ls b f i))) nf2 lo hi best (nI x) (rm_i m 103 (rpa n tr ls b f i) y) = some (best2, rm_i m 103 (rpa n tr ls b f i) y2) ∧ (lo0.toInt < best2.toInt → best2.toInt ≤ V) ∧ (best2.toInt < hi.toInt → ∀ z, z < 16 → (lwm fo tr (sl n f i) (H (rpa n tr ls b f i))).testBit z = true → ((on n tr ls b (fu f i z) i + Wv n fo tr ls b r (i + 1) (fu f i z) (hu H (rpa n tr ls b f i) z) : Nat) : Int) ≤ best2.toInt) ∧ -1 ≤ best2.toInt ∧ best2.toInt ≤ 99 + (r + 1 : Nat) := by
  have hp := rpa_lt (tr := tr) (ls := ls) (b := b) (k := i) (f := f) (show 0 < n by omega)
  have hHp := (hH _ hp).2
  have hdm := Nat.div_add_mod i n
  have hsc : sc so (sl n f i) := by
    rw [hso]
    exact sc_jo (by omega) hn4 (fun j hj => hf _ (by omega))
  intro s
  induction s with
  | zero =>
    intro x nf2 lo best y e hnf i1 i2 i3 i4 i5
    obtain ⟨nf2, rfl⟩ : ∃ e, nf2 = e + 1 := ⟨nf2 - 1, by omega⟩
    obtain rfl : x = 16 := by omega
    refine ⟨best, y, ?_, i2, i3, i4, i5⟩
    unfold ju_reach_l47
    rw [if_neg (by decide)]
  | succ s ih =>
    intro x nf2 lo best y e hnf i1 i2 i3 i4 i5
    obtain ⟨nf2, rfl⟩ : ∃ e, nf2 = e + 1 := ⟨nf2 - 1, by omega⟩
    by_cases hlt : lo.toInt < hi.toInt
    case neg =>
      refine ⟨best, y, ?_, i2, fun z => ?_, i4, i5⟩
      · unfold ju_reach_l47
        rw [if_pos (by rw [k16, nI_ltI (by omega) (by omega)]; omega), if_neg (mt i_lt.mp hlt)]
      · have i1b := i1.2
        split at i1b <;> omega
    cases q : (lwm fo tr (sl n f i) (H (rpa n tr ls b f i))).testBit x with
    | false =>
      rw [node_skip (t := t) (Gm_k hG 103 _ y (by omega)) hfo (by omega) hHp hsc q (i_lt.mpr hlt)]
      refine ih (x + 1) nf2 lo best y (by omega) (by omega) i1 i2 (fun z w hw hb => ?_) i4 i5
      by_cases zz : w = x
      · rw [zz, q] at hb
        cases hb
      · exact i3 z w (by omega) hb
    | true =>
      obtain ⟨v, ⟨v1, v2, v3, v4⟩, v5⟩ := node_take (nf2 := nf2) (best := best) (a7 := 1) (y := y) hn hn4 hs hb hls hfo rc hir hG hH hf hiv hso (show x < 16 by omega) q hlt (by have := i1.1; omega) h3
      rw [if_neg (by decide)] at v5
      rw [v5]
      have hvV := hV x (by omega) q
      have e1 : (if best < v then v else best).toInt = if best.toInt < v.toInt then v.toInt else best.toInt := by
        by_cases z : best < v
        · rw [if_pos z, if_pos (i_lt.mp z)]
        · rw [if_neg z, if_neg (mt i_lt.mpr z)]
      have e2 : (if lo < (if best < v then v else best) then (if best < v then v else best) else lo).toInt = if lo.toInt < (if best < v then v else best).toInt then (if best < v then v else best).toInt else lo.toInt := by
        by_cases z : lo < (if best < v then v else best)
        · rw [if_pos z, if_pos (i_lt.mp z)]
        · rw [if_neg z, if_neg (mt i_lt.mpr z)]
      refine ih (x + 1) nf2 _ _ _ (by omega) (by omega) ?_ (fun z => ?_) (fun z w hw hb => ?_) ?_ ?_
      · have i1b := i1.2
        have i1a := i1.1
        rw [e2, e1]
        refine ⟨?_, ?_⟩
        · repeat' split
          all_goals omega
        · split at i1b
          all_goals repeat' split
          all_goals omega
      · rw [e1] at z ⊢
        split at z
        · rw [if_pos (by assumption)]
          have := v2 (by have i1b := i1.2; split at i1b <;> omega)
          omega
        · rw [if_neg (by assumption)]
          exact i2 z
      · rw [e1] at z ⊢
        by_cases zz : w = x
        · rw [zz]
          have := v1 (by split at z <;> omega)
          split <;> omega
        · have := i3 (by split at z <;> omega) w (by omega) hb
          split <;> omega
      · rw [e1]
        split <;> omega
      · rw [e1]
        split <;> omega
theorem lmin_sp {nf n t fo tr ls b k r i : Nat} {f H : Nat → Nat} {so lo hi0 : Int32} {m : rn_Mem} {V : Nat} (hn : 2 ≤ n) (hn4 : n ≤ 4) (hs : n * t ≤ 12) (hb : b < n) (hls : ls < 2) (hfo : fo ≤ 2) (rc : RC nf n t fo tr ls b k r) (hir : i + (r + 1) = n * t) (hG : Gm n t fo tr ls m) (hH : ∀ c, c < n → m.1 103 c = nI (H c) ∧ H c < 65536) (hf : ∀ j, j < i → f j < 16) (hiv : iv n t tr ls b f H i) (hso : so = jo n tr (rl n tr ls b f (i / n)) (fun j => f (n * (i / n) + j)) (i % n)) (hlt0 : lo.toInt < hi0.toInt) (h2 : -1 - (i : Int) ≤ lo.toInt) (h3 : hi0.toInt ≤ 99) (hV : ∀ x, x < 16 → (lwm fo tr (sl n f i) (H (rpa n tr ls b f i))).testBit x = true → V ≤ on n tr ls b (fu f i x) i + Wv n fo tr ls b r (i + 1) (fu f i x) (hu H (rpa n tr ls b f i) x)) : ∀ (s x nf2 : Nat) (hi best y : Int32), x + s = 16 → s < nf2 → hi.toInt = (if best.toInt < hi0.toInt then best.toInt else hi0.toInt) → (best.toInt < hi0.toInt → (V : Int) ≤ best.toInt) → (lo.toInt < best.toInt → ∀ z, z < x → (lwm fo tr (sl n f i) (H (rpa n tr ls b f i))).testBit z = true → best.toInt ≤ ((on n tr ls b (fu f i z) i + Wv n fo tr ls b r (i + 1) (fu f i z) (hu H (rpa n tr ls b f i) z) : Nat) : Int)) → -1 ≤ best.toInt → best.toInt ≤ 99 + (r + 1 : Nat) → ∃ best2 y2, ju_reach_l47 (ju_reach nf k) 4 (nI i) (nI (rpa n tr ls b f i)) so 0 (nI (H (rpa n tr ls b f i))) nf2 lo hi best (nI x) (rm_i m 103 (rpa n tr ls b f i) y) = some (best2, rm_i m 103 (rpa n tr ls b f i) y2) ∧ (best2.toInt < hi0.toInt → (V : Int) ≤ best2.toInt) ∧ (lo.toInt < best2.toInt → ∀ z, z < 16 → (lwm fo tr (sl n f i) (H (rpa n tr ls b f i))).testBit z = true → best2.toInt ≤ ((on n tr ls b (fu f i z) i + Wv n fo tr ls b r (i + 1) (fu f i z) (hu H (rpa n tr ls b f i) z) : Nat) : Int)) ∧ -1 ≤ best2.toInt ∧ best2.toInt ≤ 99 + (r + 1 : Nat) := by
  have hp := rpa_lt (tr := tr) (ls := ls) (b := b) (k := i) (f := f) (show 0 < n by omega)
  have hHp := (hH _ hp).2
  have hdm := Nat.div_add_mod i n
  have hsc : sc so (sl n f i) := by
    rw [hso]
    exact sc_jo (by omega) hn4 (fun j hj => hf _ (by omega))
  intro s
  induction s with
  | zero =>
    intro x nf2 hi best y e hnf i1 i2 i3 i4 i5
    obtain ⟨nf2, rfl⟩ : ∃ e, nf2 = e + 1 := ⟨nf2 - 1, by omega⟩
    obtain rfl : x = 16 := by omega
    refine ⟨best, y, ?_, i2, i3, i4, i5⟩
    unfold ju_reach_l47
    rw [if_neg (by decide)]
  | succ s ih =>
    intro x nf2 hi best y e hnf i1 i2 i3 i4 i5
    obtain ⟨nf2, rfl⟩ : ∃ e, nf2 = e + 1 := ⟨nf2 - 1, by omega⟩
    by_cases hlt : lo.toInt < hi.toInt
    case neg =>
      refine ⟨best, y, ?_, i2, fun z => ?_, i4, i5⟩
      · unfold ju_reach_l47
        rw [if_pos (by rw [k16, nI_ltI (by omega) (by omega)]; omega), if_neg (mt i_lt.mp hlt)]
      · split at i1 <;> omega
    cases q : (lwm fo tr (sl n f i) (H (rpa n tr ls b f i))).testBit x with
    | false =>
      rw [node_skip (t := t) (Gm_k hG 103 _ y (by omega)) hfo (by omega) hHp hsc q (i_lt.mpr hlt)]
      refine ih (x + 1) nf2 hi best y (by omega) (by omega) i1 i2 (fun z w hw hb => ?_) i4 i5
      by_cases zz : w = x
      · rw [zz, q] at hb
        cases hb
      · exact i3 z w (by omega) hb
    | true =>
      obtain ⟨v, ⟨v1, v2, v3, v4⟩, v5⟩ := node_take (nf2 := nf2) (best := best) (a7 := 0) (y := y) hn hn4 hs hb hls hfo rc hir hG hH hf hiv hso (show x < 16 by omega) q hlt h2 (by split at i1 <;> omega)
      rw [if_pos rfl] at v5
      rw [v5]
      have hvV := hV x (by omega) q
      have e1 : (if v < best then v else best).toInt = if v.toInt < best.toInt then v.toInt else best.toInt := by
        by_cases z : v < best
        · rw [if_pos z, if_pos (i_lt.mp z)]
        · rw [if_neg z, if_neg (mt i_lt.mpr z)]
      have e2 : (if (if v < best then v else best) < hi then (if v < best then v else best) else hi).toInt = if (if v < best then v else best).toInt < hi.toInt then (if v < best then v else best).toInt else hi.toInt := by
        by_cases z : (if v < best then v else best) < hi
        · rw [if_pos z, if_pos (i_lt.mp z)]
        · rw [if_neg z, if_neg (mt i_lt.mpr z)]
      refine ih (x + 1) nf2 _ _ _ (by omega) (by omega) ?_ (fun z => ?_) (fun z w hw hb => ?_) ?_ ?_
      · rw [e2, e1, i1]
        repeat' split
        all_goals omega
      · rw [e1] at z ⊢
        split at z
        · rw [if_pos (by assumption)]
          have := v1 (by split at i1 <;> omega)
          omega
        · rw [if_neg (by assumption)]
          exact i2 z
      · rw [e1] at z ⊢
        by_cases zz : w = x
        · rw [zz]
          have := v2 (by split at z <;> omega)
          split <;> omega
        · have := i3 (by split at z <;> omega) w (by omega) hb
          split <;> omega
      · rw [e1]
        split <;> omega
      · rw [e1]
        split <;> omega
theorem reach_sp {nf n t fo tr ls b : Nat} (hnf : 30 < nf) (hn : 2 ≤ n) (hn4 : n ≤ 4) (hs : n * t ≤ 12) (hb : b < n) (hls : ls < 2) (hfo : fo ≤ 2) : ∀ (r k : Nat), r < k → RC nf n t fo tr ls b k r := by
  intro r
  induction r with
  | zero =>
    intro k hk i f H m lo hi e hG hH hf hiv h1 h2 h3
    obtain ⟨k, rfl⟩ : ∃ e, k = e + 1 := ⟨k - 1, by omega⟩
    obtain ⟨g1, g2, g4, g5, g6⟩ := hG
    refine ⟨0, ?_, ?_⟩
    · show ju_reach_1 (ju_reach nf k) nf 4 _ _ _ lo hi m = _
      unfold ju_reach_1 ga_cards
      simp only [Option.bind_some]
      rw [g1, g2, pk_mul, if_neg (by rw [nI_ltI (by omega) (by omega)]; omega)]
    · rw [Wv]
      unfold AB
      rw [t0]
      exact ⟨fun _ => by omega, fun _ => by omega, by omega, by omega⟩
  | succ r ih =>
    intro k hk i f H m lo hi e hG hH hf hiv h1 h2 h3
    obtain ⟨k, rfl⟩ : ∃ e, k = e + 1 := ⟨k - 1, by omega⟩
    have rc := ih k (by omega)
    obtain ⟨g1, g2, g4, g5, g6⟩ := hG
    have hG : Gm n t fo tr ls m := ⟨g1, g2, g4, g5, g6⟩
    have hp := rpa_lt (tr := tr) (ls := ls) (b := b) (k := i) (f := f) (show 0 < n by omega)
    have hHp := (hH _ hp).2
    have hcnt := iv_mover hn hb hiv
    have hit : i / n < t := by rw [Nat.div_lt_iff_lt_mul (by omega), Nat.mul_comm]; omega
    obtain ⟨x0, hx0, hbx0⟩ := lwm_ne (fo := fo) (tr := tr) (s := sl n f i) hHp (by omega)
    obtain ⟨V, hVe⟩ := opf_some (most := decide (rpa n tr ls b f i % 2 = 0)) (M := lwm fo tr (sl n f i) (H (rpa n tr ls b f i))) (g := fun x => on n tr ls b (fu f i x) i + Wv n fo tr ls b r (i + 1) (fu f i x) (hu H (rpa n tr ls b f i) x)) (r := 16) (x := 0) (acc := none) (Or.inr ⟨x0, by omega, by omega, hbx0⟩)
    obtain ⟨_, hV2, hV3⟩ := opf_best hVe
    have hW : Wv n fo tr ls b (r + 1) i f H = V := by
      rw [Wv, hVe]
      rfl
    have hmid : rm_i m 103 (rpa n tr ls b f i) (nI (H (rpa n tr ls b f i))) = m := mi_id _ _ _ _ (hH _ hp).1
    rw [hW]
    have st : ∀ v y2, ju_reach_l47 (ju_reach nf k) 4 (nI i) (nI (rpa n tr ls b f i)) (jo n tr (rl n tr ls b f (i / n)) (fun j => f (n * (i / n) + j)) (i % n)) (if rpa n tr ls b f i % 2 = 0 then 1 else 0) (nI (H (rpa n tr ls b f i))) nf lo hi (if rpa n tr ls b f i % 2 = 0 then -1 else 99) (nI 0) (rm_i m 103 (rpa n tr ls b f i) (nI (H (rpa n tr ls b f i)))) = some (v, rm_i m 103 (rpa n tr ls b f i) y2) → ju_reach nf (k + 1) 4 (nI i) (nI (rpa n tr ls b f i)) (jo n tr (rl n tr ls b f (i / n)) (fun j => f (n * (i / n) + j)) (i % n)) lo hi m = some (v, m) := by
      intro v y2 h
      rw [hmid, show nI 0 = 0 from rfl] at h
      show ju_reach_1 (ju_reach nf k) nf 4 _ _ _ lo hi m = _
      unfold ju_reach_1 ga_cards
      simp only [Option.bind_some]
      rw [g1, g2, pk_mul, if_pos (by rw [nI_ltI (by omega) (by omega)]; omega), k2, rem_n (by omega) (by omega) (by omega)]
      have c1 : (if nI (rpa n tr ls b f i % 2) = 0 then some (1 : Int32) else some 0) = some (if rpa n tr ls b f i % 2 = 0 then 1 else 0) := by
        by_cases z : rpa n tr ls b f i % 2 = 0
        · rw [if_pos (by rw [z]; rfl), if_pos z]
        · rw [if_neg (nI_ne0 (by omega) (by omega)), if_neg z]
      have c2 : (if (if rpa n tr ls b f i % 2 = 0 then (1 : Int32) else 0) = 0 then some (99 : Int32) else some (-1)) = some (if rpa n tr ls b f i % 2 = 0 then -1 else 99) := by
        by_cases z : rpa n tr ls b f i % 2 = 0
        · rw [if_neg (b10 z), if_pos z]
        · rw [if_pos (b00 z), if_neg z]
      rw [c1]
      simp only [Option.bind_some]
      rw [c2]
      simp only [Option.bind_some]
      rw [if_pos ((in_n (by omega)).mpr (by omega)), nI_n (by omega), (hH _ hp).1, h]
      simp only [Option.bind_some]
      rw [if_pos ((in_n (by omega)).mpr (by omega)), mi_mi, hmid]
    by_cases q : rpa n tr ls b f i % 2 = 0
    · rw [decide_eq_true q] at hV2
      simp only [if_pos q] at st
      obtain ⟨v, y2, a1, a2, a3, a4, a5⟩ := lmax_sp (V := V) hn hn4 hs hb hls hfo rc (by omega) hG hH hf hiv rfl h1 h2 h3 (fun x hx hbx => (hV2 x (by omega) (by omega) hbx).1 rfl) 16 0 nf lo (-1) (nI (H (rpa n tr ls b f i))) (by omega) (by omega) (by rw [tm1]; exact ⟨by omega, by split <;> omega⟩) (by rw [tm1]; intro _; omega) (fun _ z hz => by omega) (by rw [tm1]; omega) (by rw [tm1]; omega)
      refine ⟨v, st v y2 a1, fun z => ?_, a2, a4, a5⟩
      rcases hV3 with hV3 | ⟨y, h4, h5, h6, h7⟩
      · cases hV3
      · have := a3 z y (by omega) h6
        omega
    · rw [decide_eq_false q] at hV2
      simp only [if_neg q] at st
      have t99 : (99 : Int32).toInt = 99 := by decide
      obtain ⟨v, y2, a1, a2, a3, a4, a5⟩ := lmin_sp (V := V) hn hn4 hs hb hls hfo rc (by omega) hG hH hf hiv rfl h1 h2 h3 (fun x hx hbx => (hV2 x (by omega) (by omega) hbx).2 rfl) 16 0 nf hi 99 (nI (H (rpa n tr ls b f i))) (by omega) (by omega) (by rw [t99]; split <;> omega) (by rw [t99]; intro _; omega) (fun _ z hz => by omega) (by rw [t99]; omega) (by rw [t99]; omega)
      refine ⟨v, st v y2 a1, a2, fun z => ?_, a4, a5⟩
      rcases hV3 with hV3 | ⟨y, h4, h5, h6, h7⟩
      · cases hV3
      · have := a3 z y (by omega) h6
        omega
