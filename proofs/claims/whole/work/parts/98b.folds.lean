/-! SEARCH: what a fold over lines tells -/
def PV (S F0 : Nat → Nat) (Y : Nat → Nat → Nat) (Z : Nat → Nat → Nat → Nat) : Nat → Nat → (Nat → Nat) → (Nat → Nat) → Prop
  | 0, _, _, _ => True
  | k + 1, need, w, av => (w k < S 1 ∧ 0 < lfk S w (k + 1) (w k) ∧ (S 6 = 1 ∨ need = 4 ∨ w k = need)) ∧ av k < Y 2 (nnk S F0 w k) ∧ mlk S k (kz S F0 Z 1 w av k) need (lfk S w k (kz S F0 Z 1 w av k)) = true ∧ PV S F0 Y Z k (nxn S (kz S F0 Z 1 w av k)) w av
theorem rfold_T {V : Type} {T : V → Prop} {f : V → Nat → V} {B : Nat → Prop} : ∀ {s i : Nat} {v : V}, (∀ v x, i ≤ x → x < i + s → (T (f v x) ↔ T v ∨ B x)) → (T (rfold f s i v) ↔ T v ∨ ∃ x, i ≤ x ∧ x < i + s ∧ B x)
  | 0, i, v, _ => ⟨Or.inl, fun h => h.elim id fun ⟨x, h1, h2, _⟩ => by omega⟩
  | s + 1, i, v, h => by
    rw [rfold, rfold_T (fun v x h1 h2 => h v x (by omega) (by omega)), h v i (by omega) (by omega)]
    constructor
    · rintro ((h1 | h1) | ⟨x, h1, h2, h3⟩)
      · exact Or.inl h1
      · exact Or.inr ⟨i, by omega, by omega, h1⟩
      · exact Or.inr ⟨x, by omega, by omega, h3⟩
    · rintro (h1 | ⟨x, h1, h2, h3⟩)
      · exact Or.inl (Or.inl h1)
      · by_cases z : x = i
        · rw [z] at h3; exact Or.inl (Or.inr h3)
        · exact Or.inr ⟨x, by omega, by omega, h3⟩
theorem alk_f {k : Nat} {w' w : Nat → Nat} (h : alk (k + 1) w' w) : alk k w' (fu w k (w' k)) := by
  intro j hj
  by_cases z : j = k
  · rw [z, fu_s]
  · rw [fu_n z]; exact h j (by omega)
theorem alk_g {k c : Nat} {w' w : Nat → Nat} (h : alk k w' (fu w k c)) : alk (k + 1) w' w ∧ w' k = c := by
  refine ⟨fun j hj => ?_, ?_⟩
  · rw [h j (by omega), fu_n (by omega)]
  · rw [h k (Nat.le_refl k), fu_s]
theorem PV_step {S F0 : Nat → Nat} {Y : Nat → Nat → Nat} {Z : Nat → Nat → Nat → Nat} {k need c a : Nat} {w av w' av' : Nat → Nat} (hw : alk k w' (fu w k c)) (ha : alk k av' (fu av k a)) : PV S F0 Y Z (k + 1) need w' av' ↔ (c < S 1 ∧ 0 < lfk S w (k + 1) c ∧ (S 6 = 1 ∨ need = 4 ∨ c = need)) ∧ a < Y 2 (nnk S F0 (fu w k c) k) ∧ mlk S k (Z 1 (nnk S F0 (fu w k c) k) a) need (lfk S (fu w k c) k (Z 1 (nnk S F0 (fu w k c) k) a)) = true ∧ PV S F0 Y Z k (nxn S (Z 1 (nnk S F0 (fu w k c) k) a)) w' av' := by
  obtain ⟨h1, h2⟩ := alk_g hw
  obtain ⟨h3, h4⟩ := alk_g ha
  rw [PV]
  unfold kz
  rw [h2, h4, nnk_c (fun j hj => hw j hj), lfk_c (S := S) (w := w') (u := w) (fun j hj => h1 j hj)]
  have e : ∀ d, lfk S w' k d = lfk S (fu w k c) k d := fun d => lfk_c fun j hj => hw j hj
  rw [e]
/-- a test of the value that each line can only make true -/
theorem FO_T {V : Type} {S F0 : Nat → Nat} {Y : Nat → Nat → Nat} {Z : Nat → Nat → Nat → Nat} {add : V → (Nat → Nat) → (Nat → Nat) → V} {T : V → Prop} {B : (Nat → Nat) → (Nat → Nat) → Prop} : ∀ {k need : Nat} {w av : Nat → Nat} {v : V}, (∀ v w' av', alk k w' w → alk k av' av → PV S F0 Y Z k need w' av' → (T (add v w' av') ↔ T v ∨ B w' av')) → (T (FO S F0 Y Z add k v need w av) ↔ T v ∨ ∃ w' av', alk k w' w ∧ alk k av' av ∧ PV S F0 Y Z k need w' av' ∧ B w' av')
  | 0, need, w, av, v, h => by
    rw [FO, h v w av (fun _ _ => rfl) (fun _ _ => rfl) trivial]
    constructor
    · rintro (h1 | h1)
      · exact Or.inl h1
      · exact Or.inr ⟨w, av, fun _ _ => rfl, fun _ _ => rfl, trivial, h1⟩
    · rintro (h1 | ⟨w', av', h1, h2, _, h3⟩)
      · exact Or.inl h1
      · obtain rfl : w' = w := funext fun j => h1 j (Nat.zero_le j)
        obtain rfl : av' = av := funext fun j => h2 j (Nat.zero_le j)
        exact Or.inr h3
  | k + 1, need, w, av, v, h => by
    rw [FO]
    refine (rfold_T (T := T) (B := fun c => ∃ a, (0 < lfk S w (k + 1) c ∧ (S 6 = 1 ∨ need = 4 ∨ c = need)) ∧ a < Y 2 (nnk S F0 (fu w k c) k) ∧ mlk S k (Z 1 (nnk S F0 (fu w k c) k) a) need (lfk S (fu w k c) k (Z 1 (nnk S F0 (fu w k c) k) a)) = true ∧ ∃ w' av', alk k w' (fu w k c) ∧ alk k av' (fu av k a) ∧ PV S F0 Y Z k (nxn S (Z 1 (nnk S F0 (fu w k c) k) a)) w' av' ∧ B w' av') ?_).trans ?_
    case refine_2 =>
      constructor
      · rintro (h1 | ⟨c, c1, c2, a, a1, a2, a3, w', av', b1, b2, b3, b4⟩)
        · exact Or.inl h1
        · exact Or.inr ⟨w', av', (alk_g b1).1, (alk_g b2).1, (PV_step b1 b2).mpr ⟨⟨by omega, a1⟩, a2, a3, b3⟩, b4⟩
      · rintro (h1 | ⟨w', av', b1, b2, b3, b4⟩)
        · exact Or.inl h1
        · obtain ⟨⟨p1, p2⟩, p3, p4, p5⟩ := (PV_step (alk_f b1) (alk_f b2)).mp b3
          exact Or.inr ⟨w' k, by omega, by omega, av' k, p2, p3, p4, w', av', alk_f b1, alk_f b2, p5, b4⟩
    · intro v c c1 c2
      by_cases z : 0 < lfk S w (k + 1) c ∧ (S 6 = 1 ∨ need = 4 ∨ c = need)
      · rw [if_pos z]
        refine (rfold_T (T := T) (B := fun a => mlk S k (Z 1 (nnk S F0 (fu w k c) k) a) need (lfk S (fu w k c) k (Z 1 (nnk S F0 (fu w k c) k) a)) = true ∧ ∃ w' av', alk k w' (fu w k c) ∧ alk k av' (fu av k a) ∧ PV S F0 Y Z k (nxn S (Z 1 (nnk S F0 (fu w k c) k) a)) w' av' ∧ B w' av') ?_).trans ?_
        case refine_2 =>
          constructor
          · rintro (h1 | ⟨a, a1, a2, a3, a4⟩)
            · exact Or.inl h1
            · exact Or.inr ⟨a, z, by omega, a3, a4⟩
          · rintro (h1 | ⟨a, _, a2, a3, a4⟩)
            · exact Or.inl h1
            · exact Or.inr ⟨a, by omega, by omega, a3, a4⟩
        · intro v a a1 a2
          by_cases y : mlk S k (Z 1 (nnk S F0 (fu w k c) k) a) need (lfk S (fu w k c) k (Z 1 (nnk S F0 (fu w k c) k) a)) = true
          · rw [if_pos y, FO_T fun v w' av' b1 b2 b3 => h v w' av' (alk_g b1).1 (alk_g b2).1 ((PV_step b1 b2).mpr ⟨⟨by omega, z⟩, by omega, y, b3⟩)]
            exact ⟨fun q => q.elim Or.inl fun q => Or.inr ⟨y, q⟩, fun q => q.elim Or.inl fun q => Or.inr q.2⟩
          · rw [if_neg y]
            exact ⟨Or.inl, fun q => q.elim id fun q => absurd q.1 y⟩
      · rw [if_neg z]
        exact ⟨Or.inl, fun q => q.elim id fun ⟨a, q1, _⟩ => absurd q1 z⟩
theorem rfold_R {V U : Type} {R : V → U → Prop} {f : V → Nat → V} {g : U → Nat → U} : ∀ {s i : Nat} {v : V} {u : U}, (∀ v u x, R v u → i ≤ x → x < i + s → R (f v x) (g u x)) → R v u → R (rfold f s i v) (rfold g s i u)
  | 0, _, _, _, _, h => h
  | s + 1, i, v, u, h, hr => by
    rw [rfold, rfold]
    exact rfold_R (fun v u x h0 h1 h2 => h v u x h0 (by omega) (by omega)) (h v u i hr (by omega) (by omega))
/-- two folds in step -/
theorem FO_R {V U : Type} {S F0 : Nat → Nat} {Y : Nat → Nat → Nat} {Z : Nat → Nat → Nat → Nat} {add : V → (Nat → Nat) → (Nat → Nat) → V} {add2 : U → (Nat → Nat) → (Nat → Nat) → U} {R : V → U → Prop} : ∀ {k need : Nat} {w av : Nat → Nat} {v : V} {u : U}, (∀ v u w' av', R v u → alk k w' w → alk k av' av → PV S F0 Y Z k need w' av' → R (add v w' av') (add2 u w' av')) → R v u → R (FO S F0 Y Z add k v need w av) (FO S F0 Y Z add2 k u need w av)
  | 0, need, w, av, v, u, h, hr => h v u w av hr (fun _ _ => rfl) (fun _ _ => rfl) trivial
  | k + 1, need, w, av, v, u, h, hr => by
    rw [FO, FO]
    refine rfold_R (fun v u c hr c1 c2 => ?_) hr
    by_cases z : 0 < lfk S w (k + 1) c ∧ (S 6 = 1 ∨ need = 4 ∨ c = need)
    · rw [if_pos z, if_pos z]
      refine rfold_R (fun v u a hr a1 a2 => ?_) hr
      by_cases y : mlk S k (Z 1 (nnk S F0 (fu w k c) k) a) need (lfk S (fu w k c) k (Z 1 (nnk S F0 (fu w k c) k) a)) = true
      · rw [if_pos y, if_pos y]
        exact FO_R (fun v u w' av' hr b1 b2 b3 => h v u w' av' hr (alk_g b1).1 (alk_g b2).1 ((PV_step b1 b2).mpr ⟨⟨by omega, z⟩, by omega, y, b3⟩)) hr
      · rw [if_neg y, if_neg y]; exact hr
    · rw [if_neg z, if_neg z]; exact hr
/-- a choice that needs no decision -/
noncomputable def ifc {M : Type} (p : Prop) (a b : M) : M := @ite M p (Classical.propDecidable p) a b
theorem ifc_p {M : Type} {p : Prop} {a b : M} (h : p) : ifc p a b = a := by unfold ifc; exact @if_pos p (Classical.propDecidable p) h M a b
theorem ifc_n {M : Type} {p : Prop} {a b : M} (h : ¬ p) : ifc p a b = b := by unfold ifc; exact @if_neg p (Classical.propDecidable p) h M a b
theorem rfold_sum {f : Nat → Nat} : ∀ {s i v : Nat}, rfold (fun v x => v + f x) s i v = v + gs (fun a b => a + b) 0 (fun j => f (i + j)) s
  | 0, i, v => rfl
  | s + 1, i, v => by
    rw [rfold, rfold_sum, show s + 1 = 1 + s by omega, gs_add CM_nat, gs, gs, Nat.add_assoc]
    congr 1
    show f i + gs (fun a b => a + b) 0 (fun j => f (i + 1 + j)) s = 0 + f i + gs (fun a b => a + b) 0 (fun j => f (i + (1 + j))) s
    rw [Nat.zero_add, gs_cong (f := fun j => f (i + 1 + j)) (g := fun j => f (i + (1 + j))) fun j hj => by rw [Nat.add_assoc]]
theorem NF_z {M : Type} {op : M → M → M} {e : M} (h : CM op e) {n o k : Nat} {w q : Nat → Nat} {φ : (Nat → Nat) → (Nat → Nat) → M} (hφ : ∀ w' q', alk k w' w → alk k q' q → φ w' q' = e) : NF op e n o k w q φ = e := (NF_cong (ψ := fun _ _ => e) fun w' q' h1 h2 _ _ => hφ w' q' (fun j hj => h1 j hj) (fun j hj => h2 j hj)).trans (NF_e h)
theorem gs_to {f : Nat → Nat} {a b : Nat} (h : a ≤ b) : gs (fun x y => x + y) 0 (fun x => ifc (x < a) (f x) 0) b = gs (fun x y => x + y) 0 f a := by
  rw [show b = a + (b - a) by omega, gs_add CM_nat, gs_e CM_nat (f := fun i => ifc (a + i < a) (f (a + i)) 0) fun i hi => ifc_n (by omega), gs_cong fun i hi => ifc_p hi]
  exact Nat.add_zero _
/-- how many in all -/
theorem FO_sum {S F0 : Nat → Nat} {Y : Nat → Nat → Nat} {Z : Nat → Nat → Nat → Nat} {val : (Nat → Nat) → (Nat → Nat) → Nat} (hY : ∀ w k, w k < S 1 → 0 < lfk S w (k + 1) (w k) → Y 2 (nnk S F0 w k) ≤ 24) : ∀ {k need : Nat} {w av : Nat → Nat} {v : Nat}, FO S F0 Y Z (fun v w av => v + val w av) k v need w av = v + NF (fun a b => a + b) 0 (S 1) 24 k w av (fun w' av' => ifc (PV S F0 Y Z k need w' av') (val w' av') 0)
  | 0, need, w, av, v => by rw [FO, NF, ifc_p]; exact trivial
  | k + 1, need, w, av, v => by
    rw [FO, NF]
    have e : ∀ v c, 0 ≤ c → c < 0 + S 1 → (if 0 < lfk S w (k + 1) c ∧ (S 6 = 1 ∨ need = 4 ∨ c = need) then rfold (fun v a => if mlk S k (Z 1 (nnk S F0 (fu w k c) k) a) need (lfk S (fu w k c) k (Z 1 (nnk S F0 (fu w k c) k) a)) = true then FO S F0 Y Z (fun v w av => v + val w av) k v (nxn S (Z 1 (nnk S F0 (fu w k c) k) a)) (fu w k c) (fu av k a) else v) (Y 2 (nnk S F0 (fu w k c) k)) 0 v else v) = v + gs (fun a b => a + b) 0 (fun x => NF (fun a b => a + b) 0 (S 1) 24 k (fu w k c) (fu av k x) (fun w' av' => ifc (PV S F0 Y Z (k + 1) need w' av') (val w' av') 0)) 24 := by
      intro v c _ hc
      by_cases z : 0 < lfk S w (k + 1) c ∧ (S 6 = 1 ∨ need = 4 ∨ c = need)
      · rw [if_pos z]
        have hy : Y 2 (nnk S F0 (fu w k c) k) ≤ 24 := hY (fu w k c) k (by rw [fu_s]; omega) (by rw [fu_s, lfk_c (u := w) fun j hj => fu_n (by omega)]; exact z.1)
        have e2 : ∀ v a, 0 ≤ a → a < 0 + Y 2 (nnk S F0 (fu w k c) k) → (if mlk S k (Z 1 (nnk S F0 (fu w k c) k) a) need (lfk S (fu w k c) k (Z 1 (nnk S F0 (fu w k c) k) a)) = true then FO S F0 Y Z (fun v w av => v + val w av) k v (nxn S (Z 1 (nnk S F0 (fu w k c) k) a)) (fu w k c) (fu av k a) else v) = v + NF (fun a b => a + b) 0 (S 1) 24 k (fu w k c) (fu av k a) (fun w' av' => ifc (PV S F0 Y Z (k + 1) need w' av') (val w' av') 0) := by
          intro v a _ ha
          by_cases y : mlk S k (Z 1 (nnk S F0 (fu w k c) k) a) need (lfk S (fu w k c) k (Z 1 (nnk S F0 (fu w k c) k) a)) = true
          · rw [if_pos y, FO_sum hY]
            congr 1
            refine NF_cong fun w' av' h1 h2 _ _ => ?_
            have h1' : alk k w' (fu w k c) := fun j hj => h1 j hj
            have h2' : alk k av' (fu av k a) := fun j hj => h2 j hj
            by_cases x : PV S F0 Y Z k (nxn S (Z 1 (nnk S F0 (fu w k c) k) a)) w' av'
            · rw [ifc_p x, ifc_p ((PV_step h1' h2').mpr ⟨⟨by omega, z⟩, by omega, y, x⟩)]
            · rw [ifc_n x, ifc_n (fun t => x ((PV_step h1' h2').mp t).2.2.2)]
          · rw [if_neg y]
            have : NF (fun a b => a + b) 0 (S 1) 24 k (fu w k c) (fu av k a) (fun w' av' => ifc (PV S F0 Y Z (k + 1) need w' av') (val w' av') 0) = 0 := by
              exact NF_z CM_nat fun w' av' h1 h2 => ifc_n fun t => y ((PV_step h1 h2).mp t).2.2.1
            rw [this, Nat.add_zero]
        rw [rfold_c e2, rfold_sum (f := fun a => NF (fun a b => a + b) 0 (S 1) 24 k (fu w k c) (fu av k a) (fun w' av' => ifc (PV S F0 Y Z (k + 1) need w' av') (val w' av') 0)), ← gs_to hy]
        congr 1
        refine gs_cong fun a ha => ?_
        by_cases y : a < Y 2 (nnk S F0 (fu w k c) k)
        · rw [ifc_p y, Nat.zero_add]
        · rw [ifc_n y]
          exact (NF_z CM_nat fun w' av' h1 h2 => ifc_n fun t => y ((PV_step h1 h2).mp t).2.1).symm
      · rw [if_neg z]
        have : gs (fun a b => a + b) 0 (fun x => NF (fun a b => a + b) 0 (S 1) 24 k (fu w k c) (fu av k x) (fun w' av' => ifc (PV S F0 Y Z (k + 1) need w' av') (val w' av') 0)) 24 = 0 := by
          exact gs_e CM_nat fun a ha => NF_z CM_nat fun w' av' h1 h2 => ifc_n fun t => z ((PV_step h1 h2).mp t).1.2
        rw [this, Nat.add_zero]
    rw [rfold_c e, rfold_sum (f := fun c => gs (fun a b => a + b) 0 (fun x => NF (fun a b => a + b) 0 (S 1) 24 k (fu w k c) (fu av k x) (fun w' av' => ifc (PV S F0 Y Z (k + 1) need w' av') (val w' av') 0)) 24)]
    congr 1
    exact gs_cong fun c hc => by rw [Nat.zero_add]
