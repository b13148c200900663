/-! THE ABSTRACT RUN IS THE MACHINE'S -/
theorem rn_wr_sz {a b k : Nat} {i : Instr} {S S2 : List Value} {σ τ : rn_H} (h : rn_wr a b k i S σ = some (S2, τ)) : τ.1.length = σ.1.length ∧ rn_sz τ.1 = rn_sz σ.1 := by
  have key : ∀ {q t n : Nat} {fs fs2 : List Nat}, σ.1[q]? = some (t, n, fs) → rn_sz (σ.1.set q (t, n, fs2)) = rn_sz σ.1 := by
    intro q t n fs fs2 hq
    unfold rn_sz
    congr 1
    rw [List.map_set]
    apply List.ext_getElem?
    intro j
    rw [List.getElem?_set]
    split
    · rename_i e
      subst e
      rw [List.getElem?_map, hq]
      split
      · rfl
      · rename_i z
        exact absurd (by rw [List.length_map]; exact (List.getElem?_eq_some_iff.mp hq).1) z
    · rfl
  unfold rn_wr at h
  split at h
  · split at h
    · split at h
      · split at h
        · split at h
          · split at h
            · cases h; exact ⟨rfl, rfl⟩
            · cases h
          · split at h
            · cases h; exact ⟨rfl, rfl⟩
            · cases h
          · split at h
            · cases h; exact ⟨rfl, rfl⟩
            · cases h
          · split at h
            · cases h; exact ⟨List.length_set .., key (by assumption)⟩
            · cases h
          · cases h
        · cases h
      · cases h
    · cases h
  · split at h
    · split at h
      · split at h
        · split at h
          · cases h; exact ⟨rfl, rfl⟩
          · cases h
        · cases h
      · cases h
    · cases h
  · split at h
    · split at h
      · split at h
        · split at h
          · cases h; exact ⟨rfl, rfl⟩
          · cases h
        · cases h
      · cases h
    · cases h
  · split at h
    · split at h
      · split at h
        · split at h
          · cases h; exact ⟨rfl, rfl⟩
          · cases h
        · cases h
      · cases h
    · cases h
  · split at h
    · split at h
      · split at h
        · split at h
          · cases h; exact ⟨List.length_set .., key (by assumption)⟩
          · cases h
        · cases h
      · cases h
    · cases h
  · split at h
    · split at h
      · split at h
        · split at h
          · cases h; exact ⟨rfl, rfl⟩
          · cases h
        · cases h
      · cases h
    · cases h
  · split at h
    · split at h
      · split at h
        · cases h; exact ⟨rfl, rfl⟩
        · cases h
      · cases h
    · cases h
  · cases h
theorem rn_nw_sz {a : Nat} {i : Instr} {S S2 : List Value} {σ τ : rn_H} (h : rn_nw a i S σ = some (S2, τ)) : ∃ sh, τ = rn_push sh σ ∧ σ.1.length < 9000 := by
  unfold rn_nw at h
  split at h
  · rename_i hl
    split at h
    · cases h; exact ⟨_, rfl, hl⟩
    · split at h
      · split at h
        · cases h
        · split at h
          · cases h; exact ⟨_, rfl, hl⟩
          · cases h; exact ⟨_, rfl, hl⟩
          · cases h; exact ⟨_, rfl, hl⟩
          · cases h
      · cases h
    · split at h
      · split at h
        · cases h
        · cases h; exact ⟨_, rfl, hl⟩
      · cases h
    · cases h
  · cases h
/-- what one instruction does: the seven ways of a run -/
theorem rn_run_cases {xs : List Int32} {d n y pc : Nat} {L : rn_L} {S : List Value} {σ τ : rn_H} {r : Option Value} (h : rn_run xs d (n + 1) y pc L S σ = some (r, τ)) :
    ∃ (i : Instr) (len a b c : Nat), rn_op y pc = some (i, len, a, b, c) ∧
     ((∃ L2 S2, rn_pure a i L S = some (L2, S2) ∧ rn_run xs d n y (pc + rn_len i len) L2 S2 σ = some (r, τ)) ∨
      (∃ S2, rn_rd xs a b i S σ = some S2 ∧ rn_run xs d n y (pc + rn_len i len) L S2 σ = some (r, τ)) ∨
      (∃ pc2 S2, rn_br i pc S = some (pc2, S2) ∧ rn_run xs d n y pc2 L S2 σ = some (r, τ)) ∨
      (∃ S2 σ2, rn_wr a b c i S σ = some (S2, σ2) ∧ rn_run xs d n y (pc + rn_len i len) L S2 σ2 = some (r, τ)) ∨
      (∃ S2 σ2, rn_nw a i S σ = some (S2, σ2) ∧ rn_run xs d n y (pc + rn_len i len) L S2 σ2 = some (r, τ)) ∨
      (∃ y2 k d2 M2 r2 σ2, rn_cal i a b = some (y2, k) ∧ d = d2 + 1 ∧ rn_ms[y2]? = some M2 ∧ y2 ≠ 0 ∧ (rn_args (S.take k).reverse).length ≤ M2.2.2.1 ∧ (S.take k).length = k ∧ ((S.drop k).map fun v => v.category).sum ≤ 8 ∧ rn_rcv i c (S.take k).reverse σ = true ∧
        rn_run xs d2 n y2 0 (rn_ent M2.2.2.1 (S.take k).reverse) [] σ = some (r2, σ2) ∧ rn_run xs d n y (pc + 3) L (r2.toList ++ S.drop k) σ2 = some (r, τ)) ∨
      (∃ M, rn_ms[y]? = some M ∧ rn_ret M.2.2.2.1 i S = some r ∧ τ = σ)) := by
  unfold rn_run at h
  split at h
  · cases h
  · rename_i i len a b c hop
    refine ⟨i, len, a, b, c, hop, ?_⟩
    split at h
    · exact Or.inl ⟨_, _, by assumption, h⟩
    · refine Or.inr ?_
      split at h
      · exact Or.inl ⟨_, by assumption, h⟩
      · refine Or.inr ?_
        split at h
        · exact Or.inl ⟨_, _, by assumption, h⟩
        · refine Or.inr ?_
          split at h
          · exact Or.inl ⟨_, _, by assumption, h⟩
          · refine Or.inr ?_
            split at h
            · exact Or.inl ⟨_, _, by assumption, h⟩
            · refine Or.inr ?_
              split at h
              · refine Or.inl ?_
                split at h
                · split at h
                  · rename_i hh
                    split at h
                    · exact ⟨_, _, _, _, _, _, by assumption, rfl, by assumption, hh.1, hh.2.1, hh.2.2.1, hh.2.2.2.1, hh.2.2.2.2, by assumption, h⟩
                    · cases h
                  · cases h
                · cases h
              · refine Or.inr ?_
                split at h
                · split at h
                  · cases h; exact ⟨_, by assumption, by assumption, rfl⟩
                  · cases h
                · cases h
theorem rn_mono {xs : List Int32} : ∀ (n d y pc : Nat) (L : rn_L) (S : List Value) (σ τ : rn_H) (r : Option Value), rn_run xs d n y pc L S σ = some (r, τ) → σ.1.length ≤ 9000 → σ.1.length ≤ τ.1.length ∧ rn_sz σ.1 ≤ rn_sz τ.1 ∧ τ.1.length ≤ 9000
  | 0, d, y, pc, L, S, σ, τ, r, h, _ => by unfold rn_run at h; cases h
  | n + 1, d, y, pc, L, S, σ, τ, r, h, h9 => by
    obtain ⟨i, len, a, b, c, hop, h | h | h | h | h | h | h⟩ := rn_run_cases h
    · obtain ⟨L2, S2, -, h2⟩ := h
      exact rn_mono n _ _ _ _ _ _ _ _ h2 h9
    · obtain ⟨S2, -, h2⟩ := h
      exact rn_mono n _ _ _ _ _ _ _ _ h2 h9
    · obtain ⟨pc2, S2, -, h2⟩ := h
      exact rn_mono n _ _ _ _ _ _ _ _ h2 h9
    · obtain ⟨S2, σ2, h1, h2⟩ := h
      obtain ⟨e1, e2⟩ := rn_wr_sz h1
      have := rn_mono n _ _ _ _ _ _ _ _ h2 (by omega)
      omega
    · obtain ⟨S2, σ2, h1, h2⟩ := h
      obtain ⟨sh, rfl, hl⟩ := rn_nw_sz h1
      have := rn_mono n _ _ _ _ _ _ _ _ h2 (by rw [rn_len_push]; omega)
      rw [rn_len_push, rn_sz_push] at this
      omega
    · obtain ⟨y2, k, d2, M2, r2, σ2, -, -, -, -, -, -, -, -, h1, h2⟩ := h
      have g1 := rn_mono n _ _ _ _ _ _ _ _ h1 h9
      have g2 := rn_mono n _ _ _ _ _ _ _ _ h2 g1.2.2
      omega
    · obtain ⟨M, -, -, rfl⟩ := h
      omega
/-- what a method's body stands on -/
def rn_Cx (κ : rn_K) (M : rn_M) (p : Program) (s : State) (m : MethodId) (args : Array Value) (meth : Method) (c : Code) (len0 : Nat) : Prop :=
  p.tables.exec = Jvm.exec ∧ c.code = M.2.1 ∧ c.maxLocals = M.2.2.1 ∧ s.vm.findClass M.1.cls = some m.cls ∧ (∀ w ∈ rn_tbl, w.before args s = true) ∧ va_K κ.1 rn_cl (rn_tys κ) s ∧ rn_X κ s s.heap ∧ (M.1.name = "<init>" → meth.name = "<init>") ∧ s.heap.size = κ.2.2.2.1 + len0 ∧ rn_N s
def rn_Rm (d mc ms : Nat) : Room := { frames := d + 1, cells := mc, slots := ms, locals := 60 * (d + 1) }
def rn_Good : Prop := (∀ (y pc : Nat) (M : rn_M) (q : rn_Op), rn_ms[y]? = some M → rn_op y pc = some q → rn_good M (pc, q)) ∧ ∀ (y : Nat) (M : rn_M), y ≠ 0 → rn_ms[y]? = some M → rn_cw M
/-- the end of a run, as its caller takes it -/
def rn_End (κ : rn_K) (M : rn_M) (l : Launch) (p : Program) (e : Env) (R : Room) (s : State) (m : MethodId) (args : Array Value) (below : List Frame) (meth : Method) (c : Code) (Q : State → Prop) (r : Option Value) (τ : rn_H) (cells slots : Nat) : Prop :=
  ∀ (pc : Nat) (ls : Array Slot) (H : Heap) (locs : List Loc) (i : Instr) (S : List Value), va_P κ.1 rn_cl (rn_ws κ τ) H → va_S (rn_A κ) s.heap H locs → decode M.2.1 pc = .ok (i, 1) → rn_ret M.2.2.2.1 i S = some r → H.size = κ.2.2.2.1 + τ.1.length → W p l e R s m args below meth c H locs cells slots Q (F0 m pc ls (S.map (rn_cv κ)))
def rn_Sim (l : Launch) (κ : rn_K) (n : Nat) : Prop :=
  ∀ (d y : Nat) (M : rn_M) (pc : Nat) (L : rn_L) (S : List Value) (σ τ : rn_H) (r : Option Value), rn_ms[y]? = some M → rn_run κ.2.2.2.2 d n y pc L S σ = some (r, τ) → σ.1.length ≤ 9000 →
  ∀ (p : Program) (e : Env) (R : Room) (s : State) (m : MethodId) (args : Array Value) (below : List Frame) (meth : Method) (c : Code) (H : Heap) (locs : List Loc) (cells slots len0 sz0 : Nat) (Q : State → Prop) (ls : Array Slot),
    rn_Cx κ M p s m args meth c len0 → d + 1 ≤ R.frames → 60 * (d + 1) ≤ R.locals → cells + len0 = σ.1.length → slots + sz0 = rn_sz σ.1 → τ.1.length ≤ R.cells + len0 → rn_sz τ.1 ≤ R.slots + sz0 →
    va_P κ.1 rn_cl (rn_ws κ σ) H → va_S (rn_A κ) s.heap H locs → rn_lv κ M.2.2.1 L ls →
    rn_End κ M l p e R s m args below meth c Q r τ (τ.1.length - len0) (rn_sz τ.1 - sz0) →
    W p l e R s m args below meth c H locs cells slots Q (F0 m pc ls (S.map (rn_cv κ)))
/-- a method's contract out of its run -/
def rn_Met (l : Launch) (κ : rn_K) (d : Nat) (M : rn_M) (vs : List Value) (σ : rn_H) (r : Option Value) (τ : rn_H) : Prop :=
  Met l M.1 (.code M.1 M.2.1 M.2.2.1 M.2.2.2.1 :: rn_gd) (rn_Rm d (τ.1.length - σ.1.length) (rn_sz τ.1 - rn_sz σ.1)) (va_Pc (vs.map (rn_cv κ)) (rn_Inv κ σ)) (fun _ st o t => (o = .returned (r.map (rn_cv κ)) ∧ rn_Inv κ τ t) ∧ va_F (rn_A κ) st t) (τ.1.length - σ.1.length) (rn_sz τ.1 - rn_sz σ.1) (rn_A κ)
theorem rn_met_of {l : Launch} {κ : rn_K} {n : Nat} (hG : rn_Good) (hSim : rn_Sim l κ n) {d y : Nat} {M : rn_M} {vs : List Value} {σ τ : rn_H} {r : Option Value} (hy : y ≠ 0) (hM : rn_ms[y]? = some M) (hrun : rn_run κ.2.2.2.2 d n y 0 (rn_ent M.2.2.1 vs) [] σ = some (r, τ)) (hl : (rn_args vs).length ≤ M.2.2.1) (h9 : σ.1.length ≤ 9000) : rn_Met l κ d M vs σ r τ := by
  obtain ⟨m1, m2, m3⟩ := rn_mono n _ _ _ _ _ _ _ _ hrun h9
  have hcw := hG.2 y M hy hM
  refine va_MetF (cc := M.2.1) (maxL := M.2.2.1) (ret := M.2.2.2.1) hcw.2.2.2.2.2 rfl ?_
  intro p e s m args below meth c s₁ B hml hv
  obtain ⟨rfl, hP, hK, hX, hsz, h9b, hN⟩ := hv
  have hts0 := atoms_spec (ws := .code M.1 M.2.1 M.2.2.1 M.2.2.2.1 :: rn_gd) B.pre
  have hts := rn_hts (fun w hw => hts0 w (List.mem_cons_of_mem _ hw)) hN
  rw [lg_entry_eq]
  have hlv := rn_entry κ (vs := vs) (n := M.2.2.1) hl
  generalize (lg_sl (vs.map (rn_cv κ)) ++ List.replicate (M.2.2.1 - (lg_sl (vs.map (rn_cv κ))).length) Slot.unset).toArray = ls at hlv ⊢
  refine hSim d y M 0 (rn_ent M.2.2.1 vs) [] σ τ r hM hrun h9 p e _ s m _ below meth c s.heap [] 0 0 σ.1.length (rn_sz σ.1) _ ls ⟨B.exec, B.bytes, hml, findClass_of_methodNamed B.named, hts, hK, hX, fun hn => (name_of_methodNamed B.named B.method).1.trans hn, hsz, hN⟩ (Nat.le_refl _) (Nat.le_refl _) (by omega) (by omega) (by show _ ≤ (τ.1.length - σ.1.length) + _; omega) (by show _ ≤ (rn_sz τ.1 - rn_sz σ.1) + _; omega) hP va_S.rf hlv ?_
  intro pc ls2 H2 locs2 i S2 hP2 hS2 hd hr hsz2
  have hr0 := B.returns
  have hlocks := B.notSynchronized
  have hinv : ∀ t : State, t.heap = H2 → s.WarmedH t.vm → rn_Inv κ τ t := fun t ht hw => ⟨by rw [ht]; exact hP2, va_K.moved hw.alike hK, by rw [ht]; exact (rn_X.moved hw.alike hX).kept (fun a h1 h2 => hS2.2.1 a h1 h2), by rw [ht]; exact hsz2, m3, rn_N.moved hw hN⟩
  unfold rn_ret at hr
  split at hr
  · rename_i x hrt
    cases hr
    rw [hrt] at hr0
    exact W.iret B.exec B.bytes hr0 (fun t ht hw => ⟨⟨rfl, hinv t ht hw⟩, hS2.F ht⟩) hS2.2.2 hd
  · rename_i x hrt
    split at hr
    · rename_i h01
      cases hr
      rw [hrt] at hr0
      exact W.zret B.exec B.bytes hr0 (by rcases h01 with rfl | rfl <;> rfl) (fun t ht hw => ⟨⟨rfl, hinv t ht hw⟩, hS2.F ht⟩) hS2.2.2 hd
    · cases hr
  · rename_i x hrt
    cases hr
    rw [hrt] at hr0
    exact W.lret B.exec B.bytes hr0 (fun t ht hw => ⟨⟨rfl, hinv t ht hw⟩, hS2.F ht⟩) hS2.2.2 hd
  · rename_i hrt
    cases hr
    rw [hrt] at hr0
    exact W.vret B.exec B.bytes hr0 (fun t ht hw => ⟨⟨rfl, hinv t ht hw⟩, hS2.F ht⟩) hS2.2.2 hd
  · cases hr
