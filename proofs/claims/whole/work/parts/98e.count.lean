/-! SEARCH: the aim of all plays: numbers of lines -/
theorem gs_mr {f : Nat → Nat} {c : Nat} : ∀ {n : Nat}, gs (fun a b => a + b) 0 (fun i => f i * c) n = gs (fun a b => a + b) 0 f n * c
  | 0 => by rw [gs, gs, Nat.zero_mul]
  | n + 1 => by rw [gs, gs, gs_mr, Nat.add_mul]
theorem NS_mr {n c : Nat} {f : (Nat → Nat) → Nat} : ∀ {k : Nat} {w : Nat → Nat}, NS (fun a b => a + b) 0 n k w (fun w => f w * c) = NS (fun a b => a + b) 0 n k w f * c
  | 0, w => rfl
  | k + 1, w => by
    rw [NS, NS, ← gs_mr]
    exact gs_cong fun i hi => NS_mr
theorem ct_gs {cl : Nat → Nat} {N a : Nat} : ∀ {o : Nat}, N * fb_ct (fun q => decide (cl q = a)) o = gs (fun a b => a + b) 0 (fun x => if a = cl x then N else 0) o
  | 0 => by rw [gs]; rfl
  | o + 1 => by
    rw [gs, fb_ct_succ, Nat.mul_add, ct_gs]
    congr 1
    by_cases z : cl o = a
    · rw [if_pos (decide_eq_true z), if_pos z.symm, Nat.mul_one]
    · rw [if_neg (by rw [decide_eq_true_iff]; exact z), if_neg (fun y => z y.symm), Nat.mul_zero]
/-- a sum over classes, each as often as it has members -/
theorem gs_cl {cl : Nat → Nat} {N : Nat → Nat} {o : Nat} (h : ∀ x, x < o → cl x < 24) : gs (fun a b => a + b) 0 (fun a => N a * fb_ct (fun q => decide (cl q = a)) o) 24 = gs (fun a b => a + b) 0 (fun x => N (cl x)) o := by
  rw [gs_cong fun a ha => ct_gs, gs_swap CM_nat (fun a x => if a = cl x then N a else 0) o 24]
  refine gs_cong fun x hx => ?_
  rw [gs_cong (g := fun a => if a = cl x then N (cl x) else 0) fun a ha => ?_]
  · exact gs_one CM_nat (h x hx)
  · by_cases z : a = cl x
    · rw [if_pos z, if_pos z, z]
    · rw [if_neg z, if_neg z]
def pctN (o : Nat) (cl : Nat → Nat → Nat) (av : Nat → Nat) : Nat → Nat
  | 0 => 1
  | r + 1 => pctN o cl av r * fb_ct (fun q => decide (cl r q = av r)) o
theorem NS_cl {cl : Nat → Nat → Nat} {o K : Nat} {av0 : Nat → Nat} {φ : (Nat → Nat) → Nat} (h : ∀ j, j < K → ∀ x, x < o → cl j x < 24) : ∀ {k : Nat} {av q : Nat → Nat}, k ≤ K → (∀ j, k ≤ j → j < K → av j = cl j (q j)) → (∀ j, K ≤ j → av j = av0 j) → NS (fun a b => a + b) 0 24 k av (fun av' => φ av' * pctN o cl av' k) = NS (fun a b => a + b) 0 o k q (fun q' => φ (fun j => if j < K then cl j (q' j) else av0 j))
  | 0, av, q, _, h1, h2 => by
    rw [NS, NS, pctN, Nat.mul_one]
    congr 1
    funext j
    by_cases z : j < K
    · rw [if_pos z]; exact h1 j (Nat.zero_le j) z
    · rw [if_neg z]; exact h2 j (by omega)
  | k + 1, av, q, hk, h1, h2 => by
    rw [NS, NS]
    have e : ∀ a, NS (fun a b => a + b) 0 24 k (fu av k a) (fun av' => φ av' * pctN o cl av' (k + 1)) = NS (fun a b => a + b) 0 24 k (fu av k a) (fun av' => φ av' * pctN o cl av' k) * fb_ct (fun q => decide (cl k q = a)) o := by
      intro a
      rw [← NS_mr]
      refine NS_cong fun av' y1 y2 => ?_
      rw [pctN, y1 k (Nat.le_refl k), fu_s, Nat.mul_assoc]
    rw [gs_cong fun a ha => e a, gs_cl (N := fun a => NS (fun a b => a + b) 0 24 k (fu av k a) (fun av' => φ av' * pctN o cl av' k)) (h k (by omega))]
    refine gs_cong fun x hx => ?_
    refine NS_cl h (by omega) (fun j y1 y2 => ?_) (fun j y1 => ?_)
    · by_cases z : j = k
      · rw [z, fu_s, fu_s]
      · rw [fu_n z, fu_n z]; exact h1 j (by omega) y2
    · rw [fu_n (by omega)]; exact h2 j y1
/-- a good line -/
def GL (S : Nat → Nat) (X : Nat → Nat → Nat → Nat) (w q : Nat → Nat) : Prop := LN S X w q ∧ nbQ S X w q (S 2) = 0 ∧ bkQ S X w q (S 2) = 0
theorem GL_g {S : Nat → Nat} {X : Nat → Nat → Nat → Nat} {w u q p : Nat → Nat} (h3 : 1 ≤ S 2) (h : agr S w u) (h2 : agr S q p) (hl : GL S X w q) : GL S X u p := by
  obtain ⟨a1, a2, a3⟩ := hl
  rw [nbQ_g h h2 (Nat.le_refl _)] at a2
  rw [bkQ_g h h2 (Nat.le_refl _)] at a3
  exact ⟨LN_g h3 h h2 a1, a2, a3⟩
noncomputable def cL (S : Nat → Nat) (X : Nat → Nat → Nat → Nat) : Nat := NF (fun a b => a + b) 0 (S 1) (noS S) (S 2) (fun _ => 0) (fun _ => 0) (fun w q => ifc (GL S X w q) 1 0)
theorem way_i {S w : Nat → Nat} {k : Nat} (h2 : 0 < lfk S w (k + 1) (w k)) : ixk S w k < mmS S (w k) := by
  have := lfk_le (S := S) (w := w) (k := k + 1) (c := w k)
  unfold ixk mmS
  omega
theorem way_G {S : Nat → Nat} {X : Nat → Nat → Nat → Nat} {Y : Nat → Nat → Nat} {Z : Nat → Nat → Nat → Nat} {cl : Nat → Nat → Nat} {w : Nat → Nat} {k : Nat} (hG : GD S X Y Z cl) (h1 : w k < S 1) (h2 : 0 < lfk S w (k + 1) (w k)) : Y 0 (nnk S (F0S S) w k) = w k ∧ WPr S (w k) (X (w k) (ixk S w k)) (Y 2 (nnk S (F0S S) w k)) (cl (nnk S (F0S S) w k)) (fun f a => Z f (nnk S (F0S S) w k) a) := by
  obtain ⟨g0, g1, g2⟩ := hG (w k) (ixk S w k) h1 (way_i h2)
  exact ⟨g0, g2⟩
theorem pmA_P {S : Nat → Nat} {X : Nat → Nat → Nat → Nat} {Y : Nat → Nat → Nat} {Z : Nat → Nat → Nat → Nat} {cl : Nat → Nat → Nat} {w av : Nat → Nat} (hG : GD S X Y Z cl) (hp : ∀ j, j < S 2 → w j < S 1 ∧ 0 < lfk S w (j + 1) (w j) ∧ av j < Y 2 (nnk S (F0S S) w j)) : ∀ {r : Nat}, r ≤ S 2 → pmA S (F0S S) Z w av r = pctN (noS S) (fun j => cl (nnk S (F0S S) w j)) av r
  | 0, _ => rfl
  | r + 1, hr => by
    rw [pmA, pctN, pmA_P hG hp (by omega)]
    obtain ⟨b1, b2, b3⟩ := hp r (by omega)
    obtain ⟨_, _, _, g⟩ := way_G hG b1 b2
    congr 1
    exact (g (av r) b3).2.1
theorem pct_pos {o : Nat} {cl : Nat → Nat → Nat} {av : Nat → Nat} : ∀ {r : Nat}, (∀ j, j < r → ∃ x, x < o ∧ cl j x = av j) → 0 < pctN o cl av r
  | 0, _ => Nat.zero_lt_one
  | r + 1, h => by
    rw [pctN]
    refine Nat.mul_pos (pct_pos fun j hj => h j (by omega)) ?_
    obtain ⟨x, h1, h2⟩ := h r (by omega)
    exact fb_ct_pos.mpr ⟨x, h1, decide_eq_true h2⟩
/-- how many good lines -/
theorem FO_count {S : Nat → Nat} {X : Nat → Nat → Nat → Nat} {Y : Nat → Nat → Nat} {Z : Nat → Nat → Nat → Nat} {cl : Nat → Nat → Nat} {v : Nat} (wg : WG S) (wc : WC S) (hH : HZ S X) (hG : GD S X Y Z cl) : FO S (F0S S) Y Z (fun v w av => v + (if nbG S (F0S S) Z w av (S 2) = 0 ∧ bkG S (F0S S) Y Z w av (S 2) = 0 then pmA S (F0S S) Z w av (S 2) else 0)) (S 2) v (nd0 S) (fun _ => 0) (fun _ => 0) = v + cL S X := by
  have hno := (noS_le (S := S) wg.1 wg.2.1).2
  have w3 : 1 ≤ S 2 := wg.2.2.1
  rw [FO_sum (val := fun w av => if nbG S (F0S S) Z w av (S 2) = 0 ∧ bkG S (F0S S) Y Z w av (S 2) = 0 then pmA S (F0S S) Z w av (S 2) else 0) (fun w k h1 h2 => Nat.le_trans (way_G hG h1 h2).2.1 hno)]
  unfold cL
  congr 1
  rw [NF_eq CM_nat, NF_eq CM_nat]
  refine NS_cong fun w _ hw => ?_
  by_cases hv : ∀ j, j < S 2 → 0 < lfk S w (j + 1) (w j)
  · have hc : ∀ j, j < S 2 → ∀ x, x < noS S → cl (nnk S (F0S S) w j) x < Y 2 (nnk S (F0S S) w j) := fun j hj x hx => ((way_G hG (hw j hj) (hv j hj)).2.2.1 x hx).1
    have hc2 : ∀ j, j < S 2 → ∀ x, x < noS S → (fun j => cl (nnk S (F0S S) w j)) j x < 24 := fun j hj x hx => Nat.lt_of_lt_of_le (hc j hj x hx) (Nat.le_trans (way_G hG (hw j hj) (hv j hj)).2.1 hno)
    rw [NS_cong (ψ := fun av => ifc (PV S (F0S S) Y Z (S 2) (nd0 S) w av ∧ nbG S (F0S S) Z w av (S 2) = 0 ∧ bkG S (F0S S) Y Z w av (S 2) = 0) 1 0 * pctN (noS S) (fun j => cl (nnk S (F0S S) w j)) av (S 2)) fun av _ _ => ?_]
    · rw [NS_cl (φ := fun av => ifc (PV S (F0S S) Y Z (S 2) (nd0 S) w av ∧ nbG S (F0S S) Z w av (S 2) = 0 ∧ bkG S (F0S S) Y Z w av (S 2) = 0) 1 0) (av0 := fun _ => 0) (q := fun _ => 0) hc2 (Nat.le_refl _) (fun j y1 y2 => by omega) (fun j _ => rfl)]
      refine NS_cong fun q _ hq => ?_
      have hav : ∀ j, j < S 2 → (fun j => if j < S 2 then cl (nnk S (F0S S) w j) (q j) else 0) j = cl (nnk S (F0S S) w j) (q j) := fun j hj => if_pos hj
      have hpv := PV_of (k := S 2) (need := nd0 S) hG hav hq
      rw [PVQ_LN wg] at hpv
      by_cases z : LN S X w q
      · obtain ⟨_, e1, _, e3⟩ := pks_V wg wc hH hG (hpv.mpr z) (fun j hj => ⟨(hav j hj).symm, hq j hj⟩)
        rw [e1, e3]
        by_cases y : nbQ S X w q (S 2) = 0 ∧ bkQ S X w q (S 2) = 0
        · rw [ifc_p ⟨hpv.mpr z, y⟩, ifc_p ⟨z, y⟩]
        · rw [ifc_n (fun t => y t.2), ifc_n (fun t => y t.2)]
      · rw [ifc_n (fun t => z (hpv.mp t.1)), ifc_n (fun t => z t.1)]
    · by_cases z : PV S (F0S S) Y Z (S 2) (nd0 S) w av
      · rw [ifc_p z]
        by_cases y : nbG S (F0S S) Z w av (S 2) = 0 ∧ bkG S (F0S S) Y Z w av (S 2) = 0
        · rw [if_pos y, ifc_p ⟨z, y⟩, Nat.one_mul, pmA_P hG (PV_b z) (Nat.le_refl _)]
        · rw [if_neg y, ifc_n (fun t => y t.2), Nat.zero_mul]
      · rw [ifc_n z, ifc_n (fun t => z t.1), Nat.zero_mul]
  · have e1 : NS (fun a b => a + b) 0 24 (S 2) (fun _ => 0) (fun av => ifc (PV S (F0S S) Y Z (S 2) (nd0 S) w av) (if nbG S (F0S S) Z w av (S 2) = 0 ∧ bkG S (F0S S) Y Z w av (S 2) = 0 then pmA S (F0S S) Z w av (S 2) else 0) 0) = 0 := (NS_cong (ψ := fun _ => 0) fun av _ _ => ifc_n fun t => hv fun j hj => (PV_b t j hj).2.1).trans (NS_e CM_nat)
    have e2 : NS (fun a b => a + b) 0 (noS S) (S 2) (fun _ => 0) (fun q => ifc (GL S X w q) 1 0) = 0 := (NS_cong (ψ := fun _ => 0) fun q _ _ => ifc_n fun t => hv fun j hj => (t.1.1 j hj).2.1).trans (NS_e CM_nat)
    rw [e1, e2]
theorem NF_le {n o c : Nat} : ∀ {k : Nat} {w q : Nat → Nat} {φ : (Nat → Nat) → (Nat → Nat) → Nat}, (∀ w q, φ w q ≤ c) → NF (fun a b => a + b) 0 n o k w q φ ≤ (n * o) ^ k * c
  | 0, w, q, φ, h => by rw [NF, Nat.pow_zero, Nat.one_mul]; exact h w q
  | k + 1, w, q, φ, h => by
    have gl : ∀ {f : Nat → Nat} {b : Nat} (n : Nat), (∀ i, f i ≤ b) → gs (fun a b => a + b) 0 f n ≤ n * b := by
      intro f b n hf
      induction n with
      | zero => rw [gs, Nat.zero_mul]; exact Nat.le_refl 0
      | succ n ih => rw [gs, Nat.add_mul, Nat.one_mul]; exact Nat.add_le_add ih (hf n)
    rw [NF]
    have := gl n (fun i => gl (f := fun x => NF (fun a b => a + b) 0 n o k (fu w k i) (fu q k x) φ) o fun x => NF_le h)
    rw [Nat.pow_succ, Nat.mul_assoc, Nat.mul_assoc, Nat.mul_left_comm ((n * o) ^ k) n, Nat.mul_left_comm ((n * o) ^ k) o]
    exact this
theorem cL_lt {S : Nat → Nat} {X : Nat → Nat → Nat → Nat} (wg : WG S) : cL S X < 100000000 := by
  have hno := (noS_le (S := S) wg.1 wg.2.1).2
  have h : cL S X ≤ (S 1 * noS S) ^ (S 2) * 1 := NF_le fun w q => by
    by_cases z : GL S X w q
    · rw [ifc_p z]; exact Nat.le_refl 1
    · rw [ifc_n z]; exact Nat.zero_le 1
  have h1 : S 1 * noS S ≤ 96 := Nat.mul_le_mul wg.2.1 hno
  have h2 : (S 1 * noS S) ^ (S 2) ≤ 96 ^ 4 := Nat.le_trans (Nat.pow_le_pow_left h1 _) (Nat.pow_le_pow_right (by omega) wg.2.2.2.1)
  have : (96 : Nat) ^ 4 < 100000000 := by decide
  omega
