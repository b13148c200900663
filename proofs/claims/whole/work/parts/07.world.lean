/-! THE ABSTRACT RUN IS THE MACHINE'S: worlds. D, array classes, addresses of what is given, the first new address, the script -/
abbrev rn_K : Type := va_G × (Nat → ClassId) × (Nat → Nat) × Nat × List Int32
def rn_ad (κ : rn_K) (q : Nat) : Nat := if q < 10000 then κ.2.2.2.1 + q else κ.2.2.1 q
def rn_cv (κ : rn_K) (v : Value) : Value := match v with
  | .ref q => .ref (rn_ad κ q)
  | .int x => .int x
  | .long x => .long x
  | .float x => .float x
  | .double x => .double x
  | .null => .null
  | .retAddr x => .retAddr x
theorem rn_cv_cat (κ : rn_K) (v : Value) : (rn_cv κ v).category = v.category := by cases v <;> rfl
def rn_rc (κ : rn_K) (fs : List Nat) : Nat → Option Nat := fun j => match fs[j]? with
  | some (q + 1) => some (rn_ad κ q)
  | _ => none
def rn_fs (κ : rn_K) (M : rn_Mem) (p : Nat) (fs : List Nat) : List Value := fs.mapIdx fun k code => rn_cv κ (rn_fv M p k code)
def rn_e (κ : rn_K) (M : rn_Mem) (p : Nat) (sh : rn_Sh) : va_E := match sh with
  | (0, n, _) => .inl (κ.2.1 0, n, .inl (M.1 p))
  | (1, n, _) => .inl (κ.2.1 1, n, .inr (.inl (M.2 p)))
  | (2, n, _) => .inl (κ.2.1 2, n, .inl (M.1 p))
  | (3, n, fs) => .inl (κ.2.1 3, n, .inr (.inr (.inr (.inr (rn_rc κ fs)))))
  | (4, n, fs) => .inl (κ.2.1 4, n, .inr (.inr (.inr (.inr (rn_rc κ fs)))))
  | (ci + 5, _, fs) => .inr (ci, rn_fs κ M p fs)
def rn_ws (κ : rn_K) (σ : rn_H) : va_W := σ.1.mapIdx fun p sh => (rn_ad κ p, rn_e κ σ.2 p sh)
def rn_A (κ : rn_K) : Nat → Prop := fun q => κ.2.2.2.1 ≤ q
def rn_tys (κ : rn_K) : List (ClassId × FieldType) := [(κ.2.1 0, .int), (κ.2.1 1, .long), (κ.2.1 2, .byte), (κ.2.1 3, .object "LastTrick$Ways"), (κ.2.1 4, .object "LastTrick$Sheet")]
theorem rn_fv_congr {M M2 : rn_Mem} {p : Nat} (h1 : M.1 p = M2.1 p) (h2 : M.2 p = M2.2 p) (k code : Nat) : rn_fv M p k code = rn_fv M2 p k code := by
  unfold rn_fv
  split <;> simp only [h1, h2]
theorem rn_e_congr {κ : rn_K} {M M2 : rn_Mem} {p : Nat} (h1 : M.1 p = M2.1 p) (h2 : M.2 p = M2.2 p) (sh : rn_Sh) : rn_e κ M p sh = rn_e κ M2 p sh := by
  unfold rn_e
  split
  · rw [h1]
  · rw [h2]
  · rw [h1]
  · rfl
  · rfl
  · unfold rn_fs
    simp only [rn_fv_congr h1 h2]
theorem rn_ws_get (κ : rn_K) (σ : rn_H) (p : Nat) : (rn_ws κ σ)[p]? = (σ.1[p]?).map fun sh => (rn_ad κ p, rn_e κ σ.2 p sh) := by
  unfold rn_ws
  rw [List.getElem?_mapIdx]
theorem rn_ws_at {κ : rn_K} {σ : rn_H} {p : Nat} {sh : rn_Sh} (h : σ.1[p]? = some sh) : (rn_ws κ σ)[p]? = some (rn_ad κ p, rn_e κ σ.2 p sh) := by
  rw [rn_ws_get, h]; rfl
theorem rn_ws_len (κ : rn_K) (σ : rn_H) : (rn_ws κ σ).length = σ.1.length := by
  unfold rn_ws
  rw [List.length_mapIdx]
/-- one cell is changed -/
theorem rn_ws_set {κ : rn_K} {σ τ : rn_H} {p : Nat} {sh : rn_Sh} (hl : τ.1.length = σ.1.length) (hp : τ.1[p]? = some sh) (ho : ∀ q, q ≠ p → τ.1[q]? = σ.1[q]? ∧ τ.2.1 q = σ.2.1 q ∧ τ.2.2 q = σ.2.2 q) : rn_ws κ τ = (rn_ws κ σ).set p (rn_ad κ p, rn_e κ τ.2 p sh) := by
  have hlt : p < τ.1.length := (List.getElem?_eq_some_iff.mp hp).1
  apply List.ext_getElem?
  intro q
  rw [List.getElem?_set]
  by_cases e : p = q
  · subst e
    rw [if_pos rfl, rn_ws_at hp, if_pos (by rw [rn_ws_len]; omega)]
  · rw [if_neg e, rn_ws_get, rn_ws_get]
    obtain ⟨h1, h2, h3⟩ := ho q (fun z => e z.symm)
    rw [h1]
    cases σ.1[q]? with
    | none => rfl
    | some sh2 => simp only [Option.map_some, rn_e_congr h2 h3]
/-- a cell is made -/
theorem rn_ws_push (κ : rn_K) (σ : rn_H) (sh : rn_Sh) : rn_ws κ (rn_push sh σ) = rn_ws κ σ ++ [(rn_ad κ σ.1.length, rn_e κ (rn_push sh σ).2 σ.1.length sh)] := by
  apply List.ext_getElem?
  intro q
  rw [rn_ws_get]
  show ((σ.1 ++ [sh])[q]?).map _ = _
  by_cases h : q < σ.1.length
  · rw [List.getElem?_append_left h, List.getElem?_append_left (by rw [rn_ws_len]; exact h), rn_ws_get]
    have e1 : (rn_push sh σ).2.1 q = σ.2.1 q := by show rn_z32 _ _ _ = _; unfold rn_z32; rw [if_neg (by omega)]
    have e2 : (rn_push sh σ).2.2 q = σ.2.2 q := by show rn_z64 _ _ _ = _; unfold rn_z64; rw [if_neg (by omega)]
    cases σ.1[q]? with
    | none => rfl
    | some sh2 => simp only [Option.map_some, rn_e_congr e1 e2]
  · by_cases h2 : q = σ.1.length
    · subst h2
      rw [List.getElem?_append_right (Nat.le_refl _), List.getElem?_append_right (by rw [rn_ws_len]; exact Nat.le_refl _), rn_ws_len]
      simp
    · rw [List.getElem?_eq_none (by simp; omega), List.getElem?_eq_none (by simp [rn_ws_len]; omega)]
      rfl
theorem rn_D (κ : rn_K) {σ : rn_H} (h : σ.1.length ≤ 9000) : va_D (rn_A κ) (rn_ws κ σ) := by
  have key : ∀ (k : Nat) (q : Nat × va_E), (rn_ws κ σ)[k]? = some q → k < σ.1.length ∧ q.1 = κ.2.2.2.1 + k := by
    intro k q hk
    have hlt : k < σ.1.length := by rw [← rn_ws_len κ σ]; exact (List.getElem?_eq_some_iff.mp hk).1
    rw [rn_ws_get] at hk
    obtain ⟨sh, -, e⟩ := Option.map_eq_some_iff.mp hk
    refine ⟨hlt, ?_⟩
    rw [← e]
    show rn_ad κ k = _
    unfold rn_ad
    rw [if_pos (by omega)]
  refine ⟨fun i j p q hi hj e => ?_, fun k q hk => ?_⟩
  · have h1 := key i p hi
    have h2 := key j q hj
    omega
  · have h1 := key k q hk
    unfold rn_A
    omega
/-- what is given and never written: two tables, the script -/
def rn_X (κ : rn_K) (U : State) (H : Heap) : Prop := va_T .int (κ.2.2.1 10000) 18 (fun j => .int (rn_orders.getD j 0)) (rn_A κ) U H ∧ va_T .int (κ.2.2.1 10001) 3 (fun j => .int (rn_strict.getD j 0)) (rn_A κ) U H ∧ va_T .int (κ.2.2.1 10002) κ.2.2.2.2.length (fun j => .int (κ.2.2.2.2.getD j 0)) (rn_A κ) U H ∧ va_Z "LastTrick" "ORDERS" "[I" (.ref (κ.2.2.1 10000)) (rn_A κ) U H ∧ va_Z "LastTrick" "STRICTEST_FIRST" "[I" (.ref (κ.2.2.1 10001)) (rn_A κ) U H
theorem rn_X.moved {κ : rn_K} {u U : State} {H : Heap} (hvm : u.vm.Alike U.vm) (h : rn_X κ u H) : rn_X κ U H := ⟨h.1.moved hvm, h.2.1.moved hvm, h.2.2.1.moved hvm, h.2.2.2.1.moved hvm, h.2.2.2.2.moved hvm⟩
theorem rn_X.kept {κ : rn_K} {U : State} {H H1 : Heap} (h : rn_X κ U H) (hq : ∀ a : Nat, a < H.size → ¬ rn_A κ a → H1[a]? = H[a]?) : rn_X κ U H1 := ⟨h.1.kept hq, h.2.1.kept hq, h.2.2.1.kept hq, h.2.2.2.1.kept hq, h.2.2.2.2.kept hq⟩
def rn_Inv (κ : rn_K) (σ : rn_H) (U : State) : Prop := va_P κ.1 rn_cl (rn_ws κ σ) U.heap ∧ va_K κ.1 rn_cl (rn_tys κ) U ∧ rn_X κ U U.heap ∧ U.heap.size = κ.2.2.2.1 + σ.1.length ∧ σ.1.length ≤ 9000 ∧ rn_N U
theorem rn_Inv.calling {κ : rn_K} {σ : rn_H} {U : State} (h : rn_Inv κ σ U) (g : JFrame) (mk : MethodId) (a : Array Value) : rn_Inv κ σ (U.calling g mk a) :=
  ⟨h.1, va_K.moved (u := U) (U := U.calling g mk a) (Vm.Alike.refl U.vm) h.2.1, rn_X.moved (u := U) (U := U.calling g mk a) (Vm.Alike.refl U.vm) h.2.2.1, h.2.2.2.1, h.2.2.2.2.1, rn_N.same (s := U) (U := U.calling g mk a) rfl h.2.2.2.2.2⟩
/-! locals -/
def rn_lv (κ : rn_K) (nL : Nat) (L : rn_L) (ls : Array Slot) : Prop := L.length = nL ∧ ls.size = nL ∧ lv_wf ls ∧ ∀ (i : Nat) (v : Value), L[i]? = some (some v) → ls[i]? = some (.val (rn_cv κ v))
def rn_asc (κ : rn_K) (L : rn_L) : List (Nat × Value) := (List.range L.length).filterMap fun i => match L[i]? with
  | some (some v) => some (i, rn_cv κ v)
  | _ => none
theorem rn_asc_mem {κ : rn_K} {L : rn_L} {q : Nat × Value} : q ∈ rn_asc κ L ↔ ∃ v, L[q.1]? = some (some v) ∧ q.2 = rn_cv κ v := by
  unfold rn_asc
  rw [List.mem_filterMap]
  constructor
  · rintro ⟨i, -, h⟩
    split at h
    · rename_i v e
      cases h
      exact ⟨v, e, rfl⟩
    · cases h
  · rintro ⟨v, h1, h2⟩
    refine ⟨q.1, List.mem_range.mpr (List.getElem?_eq_some_iff.mp h1).1, ?_⟩
    rw [h1]
    dsimp only
    rw [← h2]
theorem rn_lv.has {κ : rn_K} {nL : Nat} {L : rn_L} {ls : Array Slot} (h : rn_lv κ nL L ls) : lv_has ls nL (rn_asc κ L) := by
  refine ⟨h.2.1, h.2.2.1, fun q hq => ?_⟩
  obtain ⟨v, h1, h2⟩ := rn_asc_mem.mp hq
  rw [h2]
  exact h.2.2.2 q.1 v h1
theorem rn_kill_get {L : rn_L} {k j : Nat} {w : Value} (h : (rn_kill L k)[j]? = some (some w)) : L[j]? = some (some w) ∧ ¬ (j + 1 = k ∧ w.category = 2) := by
  have key : ∀ (q : Nat), (L.set q none)[j]? = some (some w) → L[j]? = some (some w) ∧ ¬ j = q := by
    intro q h
    rw [List.getElem?_set] at h
    by_cases e : q = j
    · rw [if_pos e] at h
      split at h <;> cases h
    · rw [if_neg e] at h
      exact ⟨h, fun z => e z.symm⟩
  unfold rn_kill at h
  split at h
  · exact ⟨h, fun z => by omega⟩
  · split at h
    · obtain ⟨a, b⟩ := key _ h
      exact ⟨a, fun z => b (by omega)⟩
    · obtain ⟨a, b⟩ := key _ h
      exact ⟨a, fun z => b (by omega)⟩
    · rename_i n1 n2
      refine ⟨h, fun z => ?_⟩
      have e := Nat.succ.inj z.1
      rw [e] at h
      cases w with
      | long x => exact n1 x h
      | double x => exact n2 x h
      | _ => cases z.2
theorem rn_kill_len (L : rn_L) (k : Nat) : (rn_kill L k).length = L.length := by
  unfold rn_kill
  split
  · rfl
  · split <;> simp
theorem rn_lv.st1 {κ : rn_K} {nL k : Nat} {L : rn_L} {ls : Array Slot} {v : Value} (hL : L.length = nL) (h : lv_has ls nL ((k, rn_cv κ v) :: (rn_asc κ L).filter (fun q => !(q.1 == k) && !(q.1 + 1 == k && q.2.category == 2)))) : rn_lv κ nL (rn_s1 k v L) ls := by
  refine ⟨by unfold rn_s1; rw [List.length_set, rn_kill_len]; exact hL, h.1, h.2.1, fun j w hj => ?_⟩
  unfold rn_s1 at hj
  rw [List.getElem?_set] at hj
  by_cases e : k = j
  · rw [if_pos e] at hj
    split at hj
    · cases hj
      rw [← e]
      exact h.2.2 (k, rn_cv κ v) List.mem_cons_self
    · cases hj
  · rw [if_neg e] at hj
    obtain ⟨h1, h2⟩ := rn_kill_get hj
    refine h.2.2 (j, rn_cv κ w) (List.mem_cons_of_mem _ (List.mem_filter.mpr ⟨rn_asc_mem.mpr ⟨w, h1, rfl⟩, ?_⟩))
    simp only [rn_cv_cat, Bool.and_eq_true, Bool.not_eq_true', beq_eq_false_iff_ne, ne_eq, Bool.and_eq_false_iff]
    refine ⟨fun z => e z.symm, ?_⟩
    by_cases z : j + 1 = k
    · exact Or.inr fun y => h2 ⟨z, y⟩
    · exact Or.inl z
theorem rn_lv.st2 {κ : rn_K} {nL k : Nat} {L : rn_L} {ls : Array Slot} {v : Value} (hL : L.length = nL) (h : lv_has ls nL ((k, rn_cv κ v) :: (rn_asc κ L).filter (fun q => !(q.1 == k) && (!(q.1 == k + 1) && !(q.1 + 1 == k && q.2.category == 2))))) : rn_lv κ nL (rn_s2 k v L) ls := by
  refine ⟨by unfold rn_s2; rw [List.length_set, List.length_set, rn_kill_len]; exact hL, h.1, h.2.1, fun j w hj => ?_⟩
  unfold rn_s2 at hj
  rw [List.getElem?_set] at hj
  by_cases e2 : k + 1 = j
  · rw [if_pos e2] at hj
    split at hj <;> cases hj
  rw [if_neg e2, List.getElem?_set] at hj
  by_cases e : k = j
  · rw [if_pos e] at hj
    split at hj
    · cases hj
      rw [← e]
      exact h.2.2 (k, rn_cv κ v) List.mem_cons_self
    · cases hj
  · rw [if_neg e] at hj
    obtain ⟨h1, h2⟩ := rn_kill_get hj
    refine h.2.2 (j, rn_cv κ w) (List.mem_cons_of_mem _ (List.mem_filter.mpr ⟨rn_asc_mem.mpr ⟨w, h1, rfl⟩, ?_⟩))
    simp only [rn_cv_cat, Bool.and_eq_true, Bool.not_eq_true', beq_eq_false_iff_ne, ne_eq, Bool.and_eq_false_iff]
    refine ⟨fun z => e z.symm, fun z => e2 z.symm, ?_⟩
    by_cases z : j + 1 = k
    · exact Or.inr fun y => h2 ⟨z, y⟩
    · exact Or.inl z
theorem rn_args_cv {κ : rn_K} : ∀ (vs : List Value) (n i : Nat) (v : Value), (rn_args vs)[i]? = some (some v) → (n + i, rn_cv κ v) ∈ lv_args n (vs.map (rn_cv κ))
  | [], n, i, v, h => by simp [rn_args] at h
  | w :: vs, n, i, v, h => by
    unfold rn_args at h
    show _ ∈ (n, rn_cv κ w) :: lv_args (if (rn_cv κ w).category = 2 then n + 2 else n + 1) (vs.map (rn_cv κ))
    rw [rn_cv_cat]
    split at h
    · rename_i c
      rw [if_pos c]
      match i, h with
      | 0, h => cases h; exact List.mem_cons_self
      | 1, h => cases h
      | k + 2, h =>
        refine List.mem_cons_of_mem _ ?_
        have := rn_args_cv (κ := κ) vs (n + 2) k v h
        rwa [show n + 2 + k = n + (k + 2) by omega] at this
    · rename_i c
      rw [if_neg c]
      match i, h with
      | 0, h => cases h; exact List.mem_cons_self
      | k + 1, h =>
        refine List.mem_cons_of_mem _ ?_
        have := rn_args_cv (κ := κ) vs (n + 1) k v h
        rwa [show n + 1 + k = n + (k + 1) by omega] at this
theorem rn_args_len (κ : rn_K) : ∀ vs : List Value, (lg_sl (vs.map (rn_cv κ))).length = (rn_args vs).length
  | [] => rfl
  | v :: vs => by
    have ih := rn_args_len κ vs
    unfold lg_sl at ih ⊢
    unfold rn_args
    rw [List.map_cons, List.flatMap_cons, List.length_append, ih, rn_cv_cat]
    by_cases c : v.category = 2
    · rw [if_pos c, if_pos c]; simp; omega
    · rw [if_neg c, if_neg c]; simp; omega
theorem rn_entry (κ : rn_K) {vs : List Value} {n : Nat} (h : (rn_args vs).length ≤ n) : rn_lv κ n (rn_ent n vs) ((lg_sl (vs.map (rn_cv κ)) ++ List.replicate (n - (lg_sl (vs.map (rn_cv κ))).length) Slot.unset).toArray) := by
  obtain ⟨h1, h2, h3⟩ := lv_entry (vs.map (rn_cv κ)) (n := n) (by rw [rn_args_len]; exact h)
  refine ⟨by unfold rn_ent; simp; omega, h1, h2, fun i v hi => ?_⟩
  unfold rn_ent at hi
  by_cases c : i < (rn_args vs).length
  · rw [List.getElem?_append_left c] at hi
    have := rn_args_cv (κ := κ) vs 0 i v hi
    rw [Nat.zero_add] at this
    exact h3 _ this
  · rw [List.getElem?_append_right (by omega), List.getElem?_replicate] at hi
    split at hi <;> cases hi
