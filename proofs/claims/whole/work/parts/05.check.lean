/-! WHAT THE TABLES SAY OF EACH INSTRUCTION -/
/-- words that hold on along a run, but are told of a state: private members of nest mates, arrays over a class -/
def rn_spc : Cond → Bool
  | .methodLinkNest .. => true
  | .fieldLinkNest .. => true
  | .arrayOver (.object _) => true
  | _ => false
def rn_tbl : List Cond := lw_tbl.filter fun w => goodWord w || rn_spc w
def rn_gd : List Cond := lw_tbl.filter fun w => goodWord w
def rn_w (js : List Nat) (k : Nat) (w : Cond) : Bool := decide (lw_tbl[js.getD k 0]? = some w) && (goodWord w || rn_spc w)
theorem rn_w_mem {js : List Nat} {k : Nat} {w : Cond} (h : rn_w js k w = true) : w ∈ rn_tbl := by
  unfold rn_w at h
  rw [Bool.and_eq_true] at h
  exact List.mem_filter.mpr ⟨List.mem_of_getElem? (of_decide_eq_true h.1), h.2⟩
def rn_N (U : State) : Prop := ∀ w ∈ lw_tbl, rn_spc w = true → w.before #[] U = true
theorem rn_N.moved {s U : State} (hW : s.WarmedH U.vm) (h : rn_N s) : rn_N U := by
  intro w hw hs
  have h1 := h w hw hs
  unfold rn_spc at hs
  split at hs
  · exact va_Nw.warmM hW h1
  · exact va_Nw.warmF hW h1
  · exact va_AO.moved hW.alike h1
  · cases hs
theorem rn_N.same {s U : State} (hvm : s.vm = U.vm) (h : rn_N s) : rn_N U := by
  intro w hw hs
  have h1 := h w hw hs
  unfold rn_spc at hs
  split at hs
  · exact va_Nw.same rfl hvm h1
  · exact va_Nw.same rfl hvm h1
  · exact va_AO.moved (by rw [hvm]; exact Vm.Alike.refl _) h1
  · cases hs
theorem rn_N.of {s : State} {args : Array Value} (h : ∀ w ∈ lw_tbl, w.before args s = true) : rn_N s := by
  intro w hw hs
  have h1 := h w hw
  unfold rn_spc at hs
  split at hs
  · exact va_Nw.of rfl h1
  · exact va_Nw.of rfl h1
  · exact va_AO.of h1
  · cases hs
theorem rn_hts {s : State} {args : Array Value} (h : ∀ w ∈ rn_gd, w.before args s = true) (hN : rn_N s) : ∀ w ∈ rn_tbl, w.before args s = true := by
  intro w hw
  obtain ⟨h1, h2⟩ := List.mem_filter.mp hw
  rw [Bool.or_eq_true] at h2
  rcases h2 with h2 | h2
  · exact h w (List.mem_filter.mpr ⟨h1, h2⟩)
  · have h3 := hN w h1 h2
    unfold rn_spc at h2
    split at h2
    · exact va_Nw.use rfl h3
    · exact va_Nw.use rfl h3
    · exact va_AO.use h3
    · cases h2
def rn_stn (a : Nat) : String := if a = 0 then "ORDERS" else "STRICTEST_FIRST"
def rn_rcn (a : Nat) : String := if a = 3 then "LastTrick$Ways" else "LastTrick$Sheet"
def rn_kty (c : Nat) (t : Option FieldType) : Bool := match c, t with
  | 0, some .int => true
  | 1, some .long => true
  | 2, some .boolean => true
  | 3, some (.object _) => true
  | 3, some (.array _) => true
  | _, _ => false
def rn_par (M : rn_M) : Option Nat := (parseMethodDescriptor M.1.desc).map fun d => d.parameters.length
def rn_fact (M : rn_M) (q : rn_Op) : Prop := match q with
  | (.ldc i, _, a, _, _) => Cond.constant M.1.cls i (Int32.ofNat a) ∈ rn_tbl
  | (.ldc_w i, _, a, _, _) => Cond.constant M.1.cls i (Int32.ofNat a) ∈ rn_tbl
  | (.ldc2_w i, _, a, _, _) => Cond.constantLong M.1.cls i (Int64.ofNat a) ∈ rn_tbl
  | (.getfield i, _, a, b, _) => ∃ (C : String) (T : u_T) (N : Nat), rn_cl[a]? = some (C, T, N) ∧ b < N ∧ Cond.fieldLink M.1.cls i (T b).1 (T b).2.1 (T b).2.2.1 ∈ rn_tbl
  | (.putfield i, _, a, b, c) => ∃ (C : String) (T : u_T) (N : Nat), rn_cl[a]? = some (C, T, N) ∧ b < N ∧ Cond.fieldLink M.1.cls i (T b).1 (T b).2.1 (T b).2.2.1 ∈ rn_tbl ∧ rn_kty c (parseFieldDescriptor (T b).2.2.1) = true ∧ ((T b).2.2.2 = false ∨ ((T b).2.2.2 = true ∧ M.1.name = "<init>" ∧ (T b).1 = M.1.cls))
  | (.getstatic i, _, a, b, _) => a < 2 ∧ ((b = 0 ∧ Cond.fieldLink M.1.cls i "LastTrick" (rn_stn a) "[I" ∈ rn_tbl) ∨ (b = 1 ∧ Cond.fieldLinkNest M.1.cls i "LastTrick" (rn_stn a) "[I" "LastTrick" ∈ rn_tbl))
  | (.invokevirtual i, _, a, b, c) => ∃ M2 : rn_M, rn_ms[a]? = some M2 ∧ (∃ (T : u_T) (N : Nat), rn_cl[c]? = some (M2.1.cls, T, N)) ∧ Cond.methodLink M.1.cls i M2.1 ∈ rn_tbl ∧ Cond.instanceMethod M2.1 ∈ rn_tbl ∧ Cond.selects M2.1.cls M2.1 M2.1 ∈ rn_tbl ∧ 1 ≤ b ∧ rn_par M2 = some (b - 1)
  | (.invokestatic i, _, a, b, _) => if a = 998 then Cond.methodLink M.1.cls i arraycopyName ∈ rn_tbl ∧ Cond.native arraycopyName ∈ rn_tbl ∧ Cond.static arraycopyName ∈ rn_tbl ∧ Cond.initialized "java/lang/System" ∈ rn_tbl
      else ∃ M2 : rn_M, rn_ms[a]? = some M2 ∧ (Cond.methodLink M.1.cls i M2.1 ∈ rn_tbl ∨ Cond.methodLinkNest M.1.cls i M2.1 "LastTrick" ∈ rn_tbl) ∧ Cond.static M2.1 ∈ rn_tbl ∧ rn_par M2 = some b
  | (.invokespecial i, _, a, b, c) => if a = 999 then Cond.methodLink M.1.cls i objectInit ∈ rn_tbl ∧ Cond.instanceMethod objectInit ∈ rn_tbl ∧ Cond.code objectInit ⟨#[0xb1]⟩ 1 none ∈ rn_tbl
      else ∃ M2 : rn_M, rn_ms[a]? = some M2 ∧ M2.1.name = "<init>" ∧ M2.2.2.2.1 = none ∧ Cond.instanceMethod M2.1 ∈ rn_tbl ∧ (Cond.methodLink M.1.cls i M2.1 ∈ rn_tbl ∨ Cond.methodLinkNest M.1.cls i M2.1 "LastTrick" ∈ rn_tbl) ∧ 1 ≤ b ∧ rn_par M2 = some (b - 1)
  | (.new i, _, a, _, _) => ∃ (C : String) (T : u_T) (N : Nat), rn_cl[a]? = some (C, T, N) ∧ Cond.classLink M.1.cls i C ∈ rn_tbl ∧ Cond.instantiable C N ∈ rn_tbl ∧ Cond.initialized C ∈ rn_tbl
  | (.newarray t, _, _, _, _) => Cond.arrayClass (newarray.typeOf t) ∈ rn_tbl
  | (.anewarray i, _, a, _, _) => Cond.classLink M.1.cls i (rn_rcn a) ∈ rn_tbl ∧ Cond.arrayOver (.object (rn_rcn a)) ∈ rn_tbl
  | _ => True
def rn_chk (M : rn_M) (q : rn_Op) (js : List Nat) : Bool := match q with
  | (.ldc i, _, a, _, _) => rn_w js 0 (Cond.constant M.1.cls i (Int32.ofNat a))
  | (.ldc_w i, _, a, _, _) => rn_w js 0 (Cond.constant M.1.cls i (Int32.ofNat a))
  | (.ldc2_w i, _, a, _, _) => rn_w js 0 (Cond.constantLong M.1.cls i (Int64.ofNat a))
  | (.getfield i, _, a, b, _) => match rn_cl[a]? with
    | some (_, T, N) => decide (b < N) && rn_w js 0 (Cond.fieldLink M.1.cls i (T b).1 (T b).2.1 (T b).2.2.1)
    | none => false
  | (.putfield i, _, a, b, c) => match rn_cl[a]? with
    | some (_, T, N) => decide (b < N) && (rn_w js 0 (Cond.fieldLink M.1.cls i (T b).1 (T b).2.1 (T b).2.2.1) && (rn_kty c (parseFieldDescriptor (T b).2.2.1) && (decide ((T b).2.2.2 = false) || (decide ((T b).2.2.2 = true) && (decide (M.1.name = "<init>") && decide ((T b).1 = M.1.cls))))))
    | none => false
  | (.getstatic i, _, a, b, _) => decide (a < 2) && ((decide (b = 0) && rn_w js 0 (Cond.fieldLink M.1.cls i "LastTrick" (rn_stn a) "[I")) || (decide (b = 1) && rn_w js 0 (Cond.fieldLinkNest M.1.cls i "LastTrick" (rn_stn a) "[I" "LastTrick")))
  | (.invokevirtual i, _, a, b, c) => match rn_ms[a]?, rn_cl[c]? with
    | some M2, some (C, _, _) => decide (C = M2.1.cls) && (rn_w js 0 (Cond.methodLink M.1.cls i M2.1) && (rn_w js 1 (Cond.instanceMethod M2.1) && (rn_w js 2 (Cond.selects M2.1.cls M2.1 M2.1) && (decide (1 ≤ b) && decide (rn_par M2 = some (b - 1))))))
    | _, _ => false
  | (.invokestatic i, _, a, b, _) => if a = 998 then rn_w js 0 (Cond.methodLink M.1.cls i arraycopyName) && (rn_w js 1 (Cond.native arraycopyName) && (rn_w js 2 (Cond.static arraycopyName) && rn_w js 3 (Cond.initialized "java/lang/System")))
      else match rn_ms[a]? with
        | some M2 => (rn_w js 0 (Cond.methodLink M.1.cls i M2.1) || rn_w js 0 (Cond.methodLinkNest M.1.cls i M2.1 "LastTrick")) && (rn_w js 1 (Cond.static M2.1) && decide (rn_par M2 = some b))
        | none => false
  | (.invokespecial i, _, a, b, c) => if a = 999 then rn_w js 0 (Cond.methodLink M.1.cls i objectInit) && (rn_w js 1 (Cond.instanceMethod objectInit) && rn_w js 2 (Cond.code objectInit ⟨#[0xb1]⟩ 1 none))
      else match rn_ms[a]? with
        | some M2 => decide (M2.1.name = "<init>") && (decide (M2.2.2.2.1 = none) && (rn_w js 1 (Cond.instanceMethod M2.1) && ((rn_w js 0 (Cond.methodLink M.1.cls i M2.1) || rn_w js 0 (Cond.methodLinkNest M.1.cls i M2.1 "LastTrick")) && (decide (1 ≤ b) && decide (rn_par M2 = some (b - 1))))))
        | none => false
  | (.new i, _, a, _, _) => match rn_cl[a]? with
    | some (C, _, N) => rn_w js 0 (Cond.classLink M.1.cls i C) && (rn_w js 1 (Cond.instantiable C N) && rn_w js 2 (Cond.initialized C))
    | none => false
  | (.newarray t, _, _, _, _) => rn_w js 0 (Cond.arrayClass (newarray.typeOf t))
  | (.anewarray i, _, a, _, _) => rn_w js 0 (Cond.classLink M.1.cls i (rn_rcn a)) && rn_w js 1 (Cond.arrayOver (.object (rn_rcn a)))
  | _ => true
theorem rn_chk_fact {M : rn_M} {q : rn_Op} {js : List Nat} (h : rn_chk M q js = true) : rn_fact M q := by
  unfold rn_chk at h
  unfold rn_fact
  split at h
  · exact rn_w_mem h
  · exact rn_w_mem h
  · exact rn_w_mem h
  · split at h
    · rename_i C T N e
      rw [Bool.and_eq_true] at h
      exact ⟨C, T, N, e, of_decide_eq_true h.1, rn_w_mem h.2⟩
    · cases h
  · split at h
    · rename_i C T N e
      simp only [Bool.and_eq_true, Bool.or_eq_true, decide_eq_true_eq] at h
      exact ⟨C, T, N, e, h.1, rn_w_mem h.2.1, h.2.2.1, h.2.2.2⟩
    · cases h
  · simp only [Bool.and_eq_true, Bool.or_eq_true, decide_eq_true_eq] at h
    exact ⟨h.1, h.2.imp (fun z => ⟨z.1, rn_w_mem z.2⟩) (fun z => ⟨z.1, rn_w_mem z.2⟩)⟩
  · split at h
    · rename_i M2 C T N e1 e2
      simp only [Bool.and_eq_true, decide_eq_true_eq] at h
      obtain ⟨h0, h1, h2, h3, h4, h5⟩ := h
      exact ⟨M2, e1, ⟨T, N, by rw [← h0]; exact e2⟩, rn_w_mem h1, rn_w_mem h2, rn_w_mem h3, h4, h5⟩
    · cases h
  · split at h
    · rename_i e
      simp only [Bool.and_eq_true] at h
      rw [if_pos e]
      exact ⟨rn_w_mem h.1, rn_w_mem h.2.1, rn_w_mem h.2.2.1, rn_w_mem h.2.2.2⟩
    · rename_i e
      rw [if_neg e]
      split at h
      · rename_i M2 e1
        simp only [Bool.and_eq_true, Bool.or_eq_true, decide_eq_true_eq] at h
        exact ⟨M2, e1, h.1.imp rn_w_mem rn_w_mem, rn_w_mem h.2.1, h.2.2⟩
      · cases h
  · split at h
    · rename_i e
      simp only [Bool.and_eq_true] at h
      rw [if_pos e]
      exact ⟨rn_w_mem h.1, rn_w_mem h.2.1, rn_w_mem h.2.2⟩
    · rename_i e
      rw [if_neg e]
      split at h
      · rename_i M2 e1
        simp only [Bool.and_eq_true, Bool.or_eq_true, decide_eq_true_eq] at h
        obtain ⟨h0, h1, h2, h3, h4, h5⟩ := h
        exact ⟨M2, e1, h0, h1, rn_w_mem h2, h3.imp rn_w_mem rn_w_mem, h4, h5⟩
      · cases h
  · split at h
    · rename_i C T N e
      simp only [Bool.and_eq_true] at h
      exact ⟨C, T, N, e, rn_w_mem h.1, rn_w_mem h.2.1, rn_w_mem h.2.2⟩
    · cases h
  · exact rn_w_mem h
  · simp only [Bool.and_eq_true] at h
    exact ⟨rn_w_mem h.1, rn_w_mem h.2⟩
  · trivial
def rn_good (M : rn_M) (e : Nat × rn_Op) : Prop := decode M.2.1 e.1 = .ok (e.2.1, rn_len e.2.1 e.2.2.1) ∧ rn_fact M e.2
def rn_chkM (M : rn_M) (tab : List (Nat × rn_Op)) (js : List (List Nat)) : Bool := decide (tab.length = js.length) && (tab.zip js).all fun q => decide (decode M.2.1 q.1.1 = .ok (q.1.2.1, rn_len q.1.2.1 q.1.2.2.1)) && rn_chk M q.1.2 q.2
theorem rn_chkM_good {M : rn_M} {tab : List (Nat × rn_Op)} {js : List (List Nat)} (h : rn_chkM M tab js = true) : ∀ e ∈ tab, rn_good M e := by
  intro e he
  unfold rn_chkM at h
  simp only [Bool.and_eq_true, decide_eq_true_eq, List.all_eq_true] at h
  obtain ⟨hl, ha⟩ := h
  obtain ⟨i, hi⟩ := List.getElem?_of_mem he
  have hlt : i < tab.length := (List.getElem?_eq_some_iff.mp hi).1
  have hj : js[i]? = some js[i] := List.getElem?_eq_getElem (by omega)
  have hz : (tab.zip js)[i]? = some (e, js[i]) := by rw [List.getElem?_zip_eq_some]; exact ⟨hi, hj⟩
  obtain ⟨h1, h2⟩ := ha _ (List.mem_of_getElem? hz)
  exact ⟨h1, rn_chk_fact h2⟩
/-- of a method that is called -/
def rn_cw (M : rn_M) : Prop := Cond.initialized M.1.cls ∈ rn_tbl ∧ Cond.code M.1 M.2.1 M.2.2.1 M.2.2.2.1 ∈ rn_tbl ∧ M.1.cls ≠ "java/lang/invoke/MethodHandle" ∧ M.1.cls ≠ "java/lang/invoke/VarHandle" ∧ M.2.2.1 ≤ 40 ∧ plainFor M.1 = true
def rn_chkC (M : rn_M) (js : List Nat) : Bool := rn_w js 0 (Cond.initialized M.1.cls) && (rn_w js 1 (Cond.code M.1 M.2.1 M.2.2.1 M.2.2.2.1) && (decide (M.1.cls ≠ "java/lang/invoke/MethodHandle") && (decide (M.1.cls ≠ "java/lang/invoke/VarHandle") && (decide (M.2.2.1 ≤ 40) && plainFor M.1))))
theorem rn_chkC_cw {M : rn_M} {js : List Nat} (h : rn_chkC M js = true) : rn_cw M := by
  unfold rn_chkC at h
  simp only [Bool.and_eq_true, decide_eq_true_eq] at h
  obtain ⟨h0, h1, h2, h3, h4, h5⟩ := h
  exact ⟨rn_w_mem h0, rn_w_mem h1, h2, h3, h4, h5⟩
