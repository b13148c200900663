
/-! THE CLAIM OUT OF ONE WALK OF THE LAW'S BODY. Your part is whole_start (and what it stands on); all else here is the same for every law, but numbers. -/
def R_law : String := "LastTrickLaw"
def lw_P (b : Addr) (xs : List Int32) (args : Array Value) (s : State) : Prop := args = #[.ref b] ∧ s.IntsAt b xs ∧ xs.length ≤ 2560 ∧ (Jvm.Cond.and given_1 narrow_1).before args s = true
def lw_Q (_ : Array Value) (s : State) (o : Outcome) (t : State) : Prop := o = .returned (some (.int 1)) ∧ Framed s o t [] 600000 7302250
def lw_Z (below : List Frame) (a : Array Value) (s : State) : State → Prop := fun t => ∃ o, t.status = .running ∧ Ended t below o ∧ lw_Q a s o t
/-- the law's own end, with 1 on the stack, nothing written that was there before, its room as the claim has it -/
theorem lw_ret {p : Program} {l : Launch} {e : Env} {s : State} {m : MethodId} {below : List Frame} {meth : Method} {c : Code} {b : Nat} (hx : p.tables.exec = Jvm.exec) (hb : c.code = code) (hr : meth.sig.returnType = ret) (hlocks : meth.locks = false) {pc : Nat} {H : Heap} {ls : Array Slot} (hdg : decode code pc = .ok (.ireturn, 1)) : W p l e room_1 s m #[Value.ref b] below meth c H [] 600000 7302250 (lw_Z below #[Value.ref b] s) (F0 m pc ls [.int 1]) := by
  intro T hT X
  obtain ⟨fs, hret, hrun, hended, hW, hframe⟩ := X.leave (v := some (.int 1)) (hlocks := hlocks) (fun h => by rw [hr] at h; cases h)
  have hmeth' : T.vm.method? m = some meth := X.method'
  refine ⟨T.setFrames fs, ?_, .returned (some (.int 1)), hrun, hended, rfl, ⟨_, rfl⟩, hW, hframe⟩
  jvm_step X.here [X.here.top, hx, hb, hdg, hmeth', hr, ret, narrow_b1]
  (try refine ⟨rfl, ?_⟩); (try refine ⟨rfl, ?_⟩)
  first | (intro acts; rw [hret _ acts rfl rfl rfl]) | rw [hret _ _ rfl rfl rfl]
  exact Steps.refl _
/-- what holds at the law's entry: the machine, the code, the tables' words (any of lw_tbl by 'hts w (by decide +kernel)'), the script of L ints xs at the cell b, what the Statement gives of the start (any of its parts by flat_of_before) -/
def lw_At (p : Program) (s : State) (m : MethodId) (meth : Method) (c : Code) (b L : Nat) (xs : Nat → Int32) : Prop :=
  p.tables.exec = Jvm.exec ∧ c.code = code ∧ meth.sig.returnType = ret ∧ c.maxLocals = 4 ∧ s.vm.findClass R_law = some m.cls ∧ (∀ w ∈ lw_tbl, w.before #[Value.ref b] s = true) ∧ va_X b L xs s s.heap ∧ b < s.heap.size ∧ meth.locks = false ∧ (Jvm.Cond.and given_1 narrow_1).before #[Value.ref b] s = true
/-! THE LAW OUT OF A RUN -/
def rn_s0 : rn_H := ([], fun _ _ => 0, fun _ _ => 0)
/-- what is left: for each script a run of the law that answers 1 -/
def rn_Owed : Prop := ∀ xs : List Int32, xs.length ≤ 2560 → ∃ (d n : Nat) (τ : rn_H), d ≤ 1000 ∧ rn_run xs d n 0 0 (rn_ent 4 [.ref 10002]) [] rn_s0 = some (some (.int 1), τ) ∧ rn_sz τ.1 ≤ 7302250
theorem rn_arr {args : Array Value} {s : State} {ty : FieldType} (hne : ∀ C, ty ≠ .object C) (h : (Cond.arrayClass ty).before args s = true) : ∃ cA : ClassId, ArrOfT s cA ty ∧ va_RA s cA ty := by
  obtain ⟨cA, k, comp, h1, h2, h3⟩ := Cond.arrayClass_spec h
  refine ⟨cA, fun n z => ⟨fun k h => (by cases h), k, h2, comp, h3⟩, ?_⟩
  cases ty with
  | object C => exact absurd rfl (hne C)
  | _ => exact h1
theorem rn_arrO {args : Array Value} {s : State} {C : String} (h : (Cond.arrayOver (.object C)).before args s = true) : ∃ cA : ClassId, ArrOfT s cA (.object C) ∧ va_RA s cA (.object C) := by
  obtain ⟨comp, cA, k, h1, -, h3, h4, h5⟩ := Cond.arrayOver_spec h
  exact ⟨cA, fun n z => ⟨fun k h => (by cases h), k, h3, comp, h4⟩, k, comp, h3, h4, h1, h5⟩
theorem rn_stat {args : Array Value} {s : State} {nm : String} {vs : List Int32} {A : Nat → Prop} (hN : vs.length < 2 ^ 31) (hl : (Cond.laysStatic "LastTrick" nm "[I").before args s = true) (hini : (Cond.initialized "LastTrick").before args s = true)
    (harr : (Cond.arrayOf (.static "LastTrick" nm "[I") .int).before args s = true) (hlen : (Cond.eq (.length (.static "LastTrick" nm "[I")) (.int (Int32.ofNat vs.length))).before args s = true)
    (hel : ∀ j, j < vs.length → (Cond.eq (.elem (.static "LastTrick" nm "[I") (.int (Int32.ofNat j))) (.int (vs.getD j 0))).before args s = true) (hA : ∀ a : Nat, a < s.heap.size → ¬ A a) :
    ∃ t : Nat, va_T .int t vs.length (fun j => .int (vs.getD j 0)) A s s.heap ∧ va_Z "LastTrick" nm "[I" (.ref t) A s s.heap := by
  obtain ⟨t, h1, h2⟩ := va_Tof (A := A) hN harr (va_eqt hlen) (f := fun j => .int (vs.getD j 0)) (fun j hj => va_eqt (hel j hj)) hA
  exact ⟨t, h2, va_Zof hl hini h1 hA⟩
set_option maxHeartbeats 8000000 in
theorem rn_law (hG : rn_Good) {p : Program} {e : Env} {s : State} {m : MethodId} {below : List Frame} {meth : Method} {c : Code} (l : Launch) {b L : Nat} {xs : Nat → Int32} (C0 : lw_At p s m meth c b L xs)
    {d n : Nat} {τ : rn_H} (hd : d ≤ 1000) (hrun : rn_run ((List.range L).map xs) d n 0 0 (rn_ent 4 [.ref 10002]) [] rn_s0 = some (some (.int 1), τ)) (hz : rn_sz τ.1 ≤ 7302250) : W p l e room_1 s m #[Value.ref b] below meth c s.heap [] 0 0 (lw_Z below #[Value.ref b] s) (entryFrame m ([Value.ref b] : List Value).toArray 4) := by
  obtain ⟨hx, hb, hr, hml, hown, hts, hX, hbl, hlocks, hgv⟩ := id C0
  have hs := flat_of_before _ hgv
  obtain ⟨c0, i0, hKn0⟩ := u_known (C := "LastTrick$Clues") (T := rn_F0) (N := 5) (n := 5) (rn_hts (fun w hw => hts w (List.mem_filter.mp hw).1) (rn_N.of hts)) rn_ci0 (hts (.instantiable "LastTrick$Clues" 5) (List.mem_of_getElem? (i := 235) (by decide +kernel)))
  obtain ⟨c1, i1, hKn1⟩ := u_known (C := "LastTrick$Game") (T := rn_F1) (N := 9) (n := 9) (rn_hts (fun w hw => hts w (List.mem_filter.mp hw).1) (rn_N.of hts)) rn_ci1 (hts (.instantiable "LastTrick$Game" 9) (List.mem_of_getElem? (i := 122) (by decide +kernel)))
  obtain ⟨c2, i2, hKn2⟩ := u_known (C := "LastTrick$Judge") (T := rn_F2) (N := 3) (n := 3) (rn_hts (fun w hw => hts w (List.mem_filter.mp hw).1) (rn_N.of hts)) rn_ci2 (hts (.instantiable "LastTrick$Judge" 3) (List.mem_of_getElem? (i := 443) (by decide +kernel)))
  obtain ⟨c3, i3, hKn3⟩ := u_known (C := "LastTrick$Row") (T := rn_F3) (N := 6) (n := 6) (rn_hts (fun w hw => hts w (List.mem_filter.mp hw).1) (rn_N.of hts)) rn_ci3 (hts (.instantiable "LastTrick$Row" 6) (List.mem_of_getElem? (i := 259) (by decide +kernel)))
  obtain ⟨c4, i4, hKn4⟩ := u_known (C := "LastTrick$Search") (T := rn_F4) (N := 20) (n := 20) (rn_hts (fun w hw => hts w (List.mem_filter.mp hw).1) (rn_N.of hts)) rn_ci4 (hts (.instantiable "LastTrick$Search" 20) (List.mem_of_getElem? (i := 312) (by decide +kernel)))
  obtain ⟨c5, i5, hKn5⟩ := u_known (C := "LastTrick$Sheet") (T := rn_F5) (N := 4) (n := 4) (rn_hts (fun w hw => hts w (List.mem_filter.mp hw).1) (rn_N.of hts)) rn_ci5 (hts (.instantiable "LastTrick$Sheet" 4) (List.mem_of_getElem? (i := 460) (by decide +kernel)))
  obtain ⟨c6, i6, hKn6⟩ := u_known (C := "LastTrick$State") (T := rn_F6) (N := 4) (n := 4) (rn_hts (fun w hw => hts w (List.mem_filter.mp hw).1) (rn_N.of hts)) rn_ci6 (hts (.instantiable "LastTrick$State" 4) (List.mem_of_getElem? (i := 116) (by decide +kernel)))
  obtain ⟨c7, i7, hKn7⟩ := u_known (C := "LastTrick$Table") (T := rn_F7) (N := 7) (n := 7) (rn_hts (fun w hw => hts w (List.mem_filter.mp hw).1) (rn_N.of hts)) rn_ci7 (hts (.instantiable "LastTrick$Table" 7) (List.mem_of_getElem? (i := 193) (by decide +kernel)))
  obtain ⟨c8, i8, hKn8⟩ := u_known (C := "LastTrick$Tape") (T := rn_F8) (N := 3) (n := 3) (rn_hts (fun w hw => hts w (List.mem_filter.mp hw).1) (rn_N.of hts)) rn_ci8 (hts (.instantiable "LastTrick$Tape" 3) (List.mem_of_getElem? (i := 98) (by decide +kernel)))
  obtain ⟨c9, i9, hKn9⟩ := u_known (C := "LastTrick$Ways") (T := rn_F9) (N := 10) (n := 10) (rn_hts (fun w hw => hts w (List.mem_filter.mp hw).1) (rn_N.of hts)) rn_ci9 (hts (.instantiable "LastTrick$Ways" 10) (List.mem_of_getElem? (i := 325) (by decide +kernel)))
  obtain ⟨c10, i10, hKn10⟩ := u_known (C := "LastTrick") (T := rn_F10) (N := 11) (n := 11) (rn_hts (fun w hw => hts w (List.mem_filter.mp hw).1) (rn_N.of hts)) rn_ci10 (hts (.instantiable "LastTrick" 11) (List.mem_of_getElem? (i := 90) (by decide +kernel)))
  obtain ⟨c11, i11, hKn11⟩ := u_known (C := "LastTrickModel") (T := rn_F11) (N := 51) (n := 51) (rn_hts (fun w hw => hts w (List.mem_filter.mp hw).1) (rn_N.of hts)) rn_ci11 (hts (.instantiable "LastTrickModel" 51) (List.mem_of_getElem? (i := 1076) (by decide +kernel)))
  obtain ⟨dC, dI, hKc⟩ : ∃ (dC : Nat → ClassId) (dI : Nat → Nat → Nat), ∀ (k : Nat) (q : vw_C), rn_cl[k]? = some q → u_Kn s q.1 q.2.1 q.2.2 (dC k) (dI k) := by
    refine ⟨fun k => match k with | 0 => c0 | 1 => c1 | 2 => c2 | 3 => c3 | 4 => c4 | 5 => c5 | 6 => c6 | 7 => c7 | 8 => c8 | 9 => c9 | 10 => c10 | _ => c11, fun k => match k with | 0 => i0 | 1 => i1 | 2 => i2 | 3 => i3 | 4 => i4 | 5 => i5 | 6 => i6 | 7 => i7 | 8 => i8 | 9 => i9 | 10 => i10 | _ => i11, ?_⟩
    intro k q hq
    match k, hq with
    | 0, hq => cases hq; exact hKn0
    | 1, hq => cases hq; exact hKn1
    | 2, hq => cases hq; exact hKn2
    | 3, hq => cases hq; exact hKn3
    | 4, hq => cases hq; exact hKn4
    | 5, hq => cases hq; exact hKn5
    | 6, hq => cases hq; exact hKn6
    | 7, hq => cases hq; exact hKn7
    | 8, hq => cases hq; exact hKn8
    | 9, hq => cases hq; exact hKn9
    | 10, hq => cases hq; exact hKn10
    | 11, hq => cases hq; exact hKn11
    | k + 12, hq => simp [rn_cl] at hq
  obtain ⟨a0, a0a, a0b⟩ := rn_arr (fun _ => by simp) (hts (.arrayClass .int) (List.mem_of_getElem? (i := 233) (by decide +kernel)))
  obtain ⟨a1, a1a, a1b⟩ := rn_arr (fun _ => by simp) (hts (.arrayClass .long) (List.mem_of_getElem? (i := 371) (by decide +kernel)))
  obtain ⟨a2, a2a, a2b⟩ := rn_arr (fun _ => by simp) (hts (.arrayClass .byte) (List.mem_of_getElem? (i := 114) (by decide +kernel)))
  obtain ⟨a3, a3a, a3b⟩ := rn_arrO (hts (.arrayOver (.object "LastTrick$Ways")) (List.mem_of_getElem? (i := 324) (by decide +kernel)))
  obtain ⟨a4, a4a, a4b⟩ := rn_arrO (hts (.arrayOver (.object "LastTrick$Sheet")) (List.mem_of_getElem? (i := 459) (by decide +kernel)))
  have hA0 : ∀ a : Nat, a < s.heap.size → ¬ (fun q : Nat => s.heap.size ≤ q) a := fun a h z => Nat.not_le.mpr h z
  have hini := hts (.initialized "LastTrick") (List.mem_of_getElem? (i := 74) (by decide +kernel))
  obtain ⟨t0, t0T, t0Z⟩ := rn_stat (nm := "ORDERS") (vs := rn_orders) (A := fun q : Nat => s.heap.size ≤ q) (by decide) (hts _ (List.mem_of_getElem? (i := 742) (by decide +kernel))) hini (hs _ (by decide +kernel)) (hs _ (by decide +kernel)) (by
    intro j hj
    have : ∀ j, j < rn_orders.length → Cond.eq (.elem (.static "LastTrick" "ORDERS" "[I") (.int (Int32.ofNat j))) (.int (rn_orders.getD j 0)) ∈ flatC (Jvm.Cond.and given_1 narrow_1) := by decide +kernel
    exact hs _ (this j hj)) hA0
  obtain ⟨t1, t1T, t1Z⟩ := rn_stat (nm := "STRICTEST_FIRST") (vs := rn_strict) (A := fun q : Nat => s.heap.size ≤ q) (by decide) (hts _ (List.mem_of_getElem? (i := 915) (by decide +kernel))) hini (hs _ (by decide +kernel)) (hs _ (by decide +kernel)) (by
    intro j hj
    have : ∀ j, j < rn_strict.length → Cond.eq (.elem (.static "LastTrick" "STRICTEST_FIRST" "[I") (.int (Int32.ofNat j))) (.int (rn_strict.getD j 0)) ∈ flatC (Jvm.Cond.and given_1 narrow_1) := by decide +kernel
    exact hs _ (this j hj)) hA0
  let κ : rn_K := ((dC, dI), (fun k => match k with | 0 => a0 | 1 => a1 | 2 => a2 | 3 => a3 | _ => a4), (fun q => if q = 10000 then t0 else if q = 10001 then t1 else b), s.heap.size, (List.range L).map xs)
  have hK : va_K κ.1 rn_cl (rn_tys κ) s := by
    refine ⟨hKc, fun k q hq => ?_⟩
    match k, hq with
    | 0, hq => cases hq; exact ⟨a0a, a0b⟩
    | 1, hq => cases hq; exact ⟨a1a, a1b⟩
    | 2, hq => cases hq; exact ⟨a2a, a2b⟩
    | 3, hq => cases hq; exact ⟨a3a, a3b⟩
    | 4, hq => cases hq; exact ⟨a4a, a4b⟩
    | k + 5, hq => simp [rn_tys] at hq
  have hXX : rn_X κ s s.heap := by
    refine ⟨t0T, t1T, ?_, t0Z, t1Z⟩
    obtain ⟨scr, h1, h2, h3, h4, h5⟩ := hX
    have hlen : κ.2.2.2.2.length = L := by show ((List.range L).map xs).length = L; simp
    refine ⟨scr, h1, h2, h3, by rw [h4, hlen] <;> exact Nat.le_refl _, by rw [h4, hlen] <;> rfl, fun j hj => ?_, hA0 b hbl⟩
    rw [hlen] at hj
    rw [h5 j hj]
    show _ = some (Value.int (((List.range L).map xs).getD j 0))
    rw [List.getD_eq_getElem?_getD, List.getElem?_map, List.getElem?_range hj]; rfl
  have hN : rn_N s := rn_N.of hts
  have hP : va_P κ.1 rn_cl (rn_ws κ rn_s0) s.heap := fun k q hq => by simp [rn_ws, rn_s0] at hq
  have hgd : ∀ w ∈ rn_gd, w.before #[Value.ref b] s = true := fun w hw => hts w (List.mem_filter.mp hw).1
  have hlv := rn_entry κ (vs := [.ref 10002]) (n := 4) (by decide)
  rw [lg_entry_eq]
  have hav : ([Value.ref 10002] : List Value).map (rn_cv κ) = [Value.ref b] := rfl
  rw [hav] at hlv
  generalize (lg_sl [Value.ref b] ++ List.replicate (4 - (lg_sl [Value.ref b]).length) Slot.unset).toArray = ls at hlv ⊢
  have hm := rn_mono n _ _ _ _ _ _ _ _ hrun (by decide)
  refine rn_sim (l := l) (κ := κ) hG n d 0 rn_m0 0 (rn_ent 4 [.ref 10002]) [] rn_s0 τ (some (.int 1)) rfl hrun (by decide) p e room_1 s m _ below meth c s.heap [] 0 0 0 0 _ ls ⟨hx, hb, hml, hown, rn_hts hgd hN, hK, hXX, fun h => absurd h (by decide), rfl, hN⟩ (by show d + 1 ≤ 2048; omega) (by show 60 * (d + 1) ≤ 84000; omega) rfl rfl (by show _ ≤ 600000 + 0; omega) (by show _ ≤ 7302250 + 0; omega) hP va_S.rf hlv ?_
  intro pc ls2 H2 locs2 i S2 hP2 hS2 hdg hret hsz2
  unfold rn_ret at hret
  split at hret
  · rename_i x hrt; cases hrt
  · split at hret
    · cases hret
      refine va_forget (fun q hq => hS2.2.2 q hq) ?_
      refine W.widen (k := 600000) (n := 7302250) (by show _ - 0 ≤ _; omega) (by show _ - 0 ≤ _; omega) ?_
      exact lw_ret hx hb hr hlocks hdg
    · cases hret
  · cases hret
  · cases hret
  · cases hret
theorem rn_whole_start (hG : rn_Good) (hO : rn_Owed) {p : Program} {e : Env} {s : State} {m : MethodId} {below : List Frame} {meth : Method} {c : Code} (l : Launch) {b L : Nat} {xs : Nat → Int32} (hL : L ≤ 2560) (C0 : lw_At p s m meth c b L xs) : W p l e room_1 s m #[Value.ref b] below meth c s.heap [] 0 0 (lw_Z below #[Value.ref b] s) (entryFrame m ([Value.ref b] : List Value).toArray 4) := by
  obtain ⟨d, n, τ, h1, h2, h3⟩ := hO ((List.range L).map xs) (by simpa using hL)
  exact rn_law hG l C0 h1 h2 h3
