/-! THE ABSTRACT RUN IS THE MACHINE'S: what is written, what is made -/
theorem rn_ws_mem {κ : rn_K} {σ : rn_H} {q : Nat} {sh : rn_Sh} (hq : σ.1[q]? = some sh) (f : Nat → Nat → Int32) (g : Nat → Nat → Int64) (hf : ∀ j, j ≠ q → f j = σ.2.1 j) (hg : ∀ j, j ≠ q → g j = σ.2.2 j) : rn_ws κ (σ.1, f, g) = (rn_ws κ σ).set q (rn_ad κ q, rn_e κ (f, g) q sh) :=
  rn_ws_set (τ := (σ.1, f, g)) rfl hq (fun j hj => ⟨rfl, hf j hj, hg j hj⟩)
theorem rn_ws_shp {κ : rn_K} {σ : rn_H} {q : Nat} {sh sh2 : rn_Sh} (hq : σ.1[q]? = some sh) : rn_ws κ (σ.1.set q sh2, σ.2) = (rn_ws κ σ).set q (rn_ad κ q, rn_e κ σ.2 q sh2) :=
  rn_ws_set (τ := (σ.1.set q sh2, σ.2)) (List.length_set ..) (List.getElem?_set_self (List.getElem?_eq_some_iff.mp hq).1) (fun j hj => ⟨List.getElem?_set_ne (fun z => hj z.symm), rfl, rfl⟩)
section RNW
variable {p : Program} {l : Launch} {e : Env} {R : Room} {s : State} {m : MethodId} {args : Array Value} {below : List Frame} {meth : Method} {c : Code} {H : Heap} {locs : List Loc} {cells slots : Nat} {Q : State → Prop}
variable {cc : ByteArray} {pc : Nat} {ls : Array Slot} {σ : rn_H}
set_option maxHeartbeats 8000000 in
theorem rn_wr_ok (κ : rn_K) {M : rn_M} (hx : p.tables.exec = Jvm.exec) (hb : c.code = cc) (hml : c.maxLocals = ls.size) (hown : s.vm.findClass M.1.cls = some m.cls) (hin : M.1.name = "<init>" → meth.name = "<init>") (hts : ∀ w ∈ rn_tbl, w.before args s = true) (hK : va_K κ.1 rn_cl (rn_tys κ) s)
    (hP : va_P κ.1 rn_cl (rn_ws κ σ) H) (hS : va_S (rn_A κ) s.heap H locs) (hlen : σ.1.length ≤ 9000) (hR1 : 1 ≤ R.frames) (hR2 : 60 ≤ R.locals)
    {i : Instr} {len a b k : Nat} {S S2 : List Value} {τ : rn_H} (hdg : decode cc pc = .ok (i, rn_len i len)) (hf : rn_fact M (i, len, a, b, k)) (h : rn_wr a b k i S σ = some (S2, τ))
    (kk : ∀ (H2 : Heap) (locs2 : List Loc), va_P κ.1 rn_cl (rn_ws κ τ) H2 → va_S (rn_A κ) s.heap H2 locs2 → W p l e R s m args below meth c H2 locs2 cells slots Q (F0 m (pc + rn_len i len) ls (S2.map (rn_cv κ)))) :
    W p l e R s m args below meth c H locs cells slots Q (F0 m pc ls (S.map (rn_cv κ))) := by
  have hD := rn_D κ hlen
  unfold rn_wr at h
  split at h
  · -- putfield
    split at h
    · split at h
      · split at h
        · rename_i v q T _ t n fs hq ht
          subst ht
          have hlt : ∀ {code : Nat}, fs[b]? = some code → b < fs.length := fun z => (List.getElem?_eq_some_iff.mp z).1
          split at h
          · rename_i x hc
            split at h
            · rename_i hk
              cases h
              subst hk
              refine rn_put_ok κ hx hb hown hin hts hK hP hS hlen (T := S2) (τ := (σ.1, rn_up σ.2.1 q b x, σ.2.2)) hdg hf hq hc (fun t2 h2 => ?_) ?_ kk
              · cases t2 <;> simp [rn_kty] at h2
                exact ⟨rfl, rfl⟩
              · rw [rn_ws_mem hq (rn_up σ.2.1 q b x) σ.2.2 (fun j hj => rn_up_ne _ _ _ hj) (fun _ _ => rfl), rn_e_obj, rn_fs_set κ (n0 := 0) (M := σ.2) (M2 := (rn_up σ.2.1 q b x, σ.2.2)) (fs := fs) (fs2 := fs) (v := rn_cv κ (.int x)) rfl (hlt hc) ⟨0, hc, by show rn_cv κ (.int (rn_up σ.2.1 q b x q b)) = _; rw [rn_up_self]; simp [upd]⟩ (fun j hj => ⟨rfl, by show rn_up σ.2.1 q b x q j = _; rw [rn_up_self, rn_upd_ne _ _ hj], rfl⟩)]
            · cases h
          · rename_i x hc
            split at h
            · rename_i hk
              cases h
              subst hk
              refine rn_put_ok κ hx hb hown hin hts hK hP hS hlen (T := S2) (τ := (σ.1, σ.2.1, rn_uq σ.2.2 q b x)) hdg hf hq hc (fun t2 h2 => ?_) ?_ kk
              · cases t2 <;> simp [rn_kty] at h2
                exact ⟨rfl, rfl⟩
              · rw [rn_ws_mem hq σ.2.1 (rn_uq σ.2.2 q b x) (fun _ _ => rfl) (fun j hj => rn_uq_ne _ _ _ hj), rn_e_obj, rn_fs_set κ (n0 := 0) (M := σ.2) (M2 := (σ.2.1, rn_uq σ.2.2 q b x)) (fs := fs) (fs2 := fs) (v := rn_cv κ (.long x)) rfl (hlt hc) ⟨1, hc, by show rn_cv κ (.long (rn_uq σ.2.2 q b x q b)) = _; rw [rn_uq_self]; simp [vp_updL]⟩ (fun j hj => ⟨rfl, rfl, by show rn_uq σ.2.2 q b x q j = _; rw [rn_uq_self, rn_updL_ne _ _ hj]⟩)]
            · cases h
          · rename_i x hc
            split at h
            · rename_i hk
              cases h
              obtain ⟨hk, hx01⟩ := hk
              subst hk
              refine rn_put_ok κ hx hb hown hin hts hK hP hS hlen (T := S2) (τ := (σ.1, rn_up σ.2.1 q b x, σ.2.2)) hdg hf hq hc (fun t2 h2 => ?_) ?_ kk
              · cases t2 <;> simp [rn_kty] at h2
                rcases hx01 with rfl | rfl
                · exact ⟨rfl, rfl⟩
                · exact ⟨rfl, rfl⟩
              · rw [rn_ws_mem hq (rn_up σ.2.1 q b x) σ.2.2 (fun j hj => rn_up_ne _ _ _ hj) (fun _ _ => rfl), rn_e_obj, rn_fs_set κ (n0 := 0) (M := σ.2) (M2 := (rn_up σ.2.1 q b x, σ.2.2)) (fs := fs) (fs2 := fs) (v := rn_cv κ (.int x)) rfl (hlt hc) ⟨2, hc, by show rn_cv κ (.int (rn_up σ.2.1 q b x q b)) = _; rw [rn_up_self]; simp [upd]⟩ (fun j hj => ⟨rfl, by show rn_up σ.2.1 q b x q j = _; rw [rn_up_self, rn_upd_ne _ _ hj], rfl⟩)]
            · cases h
          · rename_i cd r hc
            split at h
            · rename_i hk
              cases h
              subst hk
              refine rn_put_ok κ hx hb hown hin hts hK hP hS hlen (T := S2) (τ := (σ.1.set q (a + 5, n, fs.set b (r + 4)), σ.2)) hdg hf hq hc (fun t2 h2 => ?_) ?_ kk
              · cases t2 <;> simp [rn_kty] at h2
                · exact ⟨rfl, rfl⟩
                · exact ⟨rfl, rfl⟩
              · rw [rn_ws_shp hq, rn_e_obj, rn_fs_set κ (n0 := 0) (M := σ.2) (fs := fs) (List.length_set ..) (hlt hc) ⟨r + 4, List.getElem?_set_self (hlt hc), rfl⟩ (fun j hj => ⟨List.getElem?_set_ne (fun z => hj z.symm), rfl, rfl⟩)]
                rfl
            · cases h
          · cases h
        · cases h
      · cases h
    · cases h
  · -- iastore
    split at h
    · split at h
      · split at h
        · split at h
          · rename_i x j q T _ t n fs hq ht hi
            cases h
            subst ht
            refine va_iast hx hb hK hP hD hS q 0 (rn_ws_at hq) rfl (rn_in_ok hi) hdg (fun H1 locs1 g1 _ g3 => kk H1 locs1 ?_ g3)
            rw [rn_ws_mem hq _ _ (fun j hj => rn_up_ne _ _ _ hj) (fun _ _ => rfl)]
            show va_P _ _ ((rn_ws κ σ).set q (rn_ad κ q, .inl (κ.2.1 0, n, .inl (rn_up _ _ _ _ q)))) _
            rw [rn_up_self]; exact g1
          · cases h
        · cases h
      · cases h
    · cases h
  · -- bastore
    split at h
    · split at h
      · split at h
        · split at h
          · rename_i x j q T _ t n fs hq ht hi
            cases h
            subst ht
            refine va_bast hx hb hK hP hD hS q 2 (rn_ws_at hq) rfl (rn_in_ok hi) hdg (fun H1 locs1 g1 _ g3 => kk H1 locs1 ?_ g3)
            rw [rn_ws_mem hq _ _ (fun j hj => rn_up_ne _ _ _ hj) (fun _ _ => rfl)]
            show va_P _ _ ((rn_ws κ σ).set q (rn_ad κ q, .inl (κ.2.1 2, n, .inl (rn_up _ _ _ _ q)))) _
            rw [rn_up_self]; exact g1
          · cases h
        · cases h
      · cases h
    · cases h
  · -- lastore
    split at h
    · split at h
      · split at h
        · split at h
          · rename_i x j q T _ t n fs hq ht hi
            cases h
            subst ht
            refine va_last hx hb hK hP hD hS q 1 (rn_ws_at hq) rfl (rn_in_ok hi) hdg (fun H1 locs1 g1 _ g3 => kk H1 locs1 ?_ g3)
            rw [rn_ws_mem hq _ _ (fun _ _ => rfl) (fun j hj => rn_uq_ne _ _ _ hj)]
            show va_P _ _ ((rn_ws κ σ).set q (rn_ad κ q, .inl (κ.2.1 1, n, .inr (.inl (rn_uq _ _ _ _ q))))) _
            rw [rn_uq_self]; exact g1
          · cases h
        · cases h
      · cases h
    · cases h
  · -- aastore
    split at h
    · split at h
      · split at h
        · split at h
          · rename_i r j q T _ _ t n fs u un us hq hr ht hi
            cases h
            obtain ⟨ht, hfl⟩ := ht
            have hj : j.toNatClampNeg < fs.length := by
              have := rn_in_ok hi
              unfold vp_in at this
              rw [hfl]
              exact Nat.not_le.mp fun z => this (Or.inr z)
            have hrc : rn_rc κ (fs.set j.toNatClampNeg (r + 1)) = va_up (rn_rc κ fs) j.toNatClampNeg (some (rn_ad κ r)) := by
              funext z
              unfold rn_rc va_up
              by_cases ez : z = j.toNatClampNeg
              · subst ez
                rw [List.getElem?_set_self hj, if_pos rfl]
              · rw [List.getElem?_set_ne (fun y => ez y.symm), if_neg ez]
            rcases ht with ⟨rfl, rfl⟩ | ⟨rfl, rfl⟩
            · refine va_astq hx hb hK hP hD hS q 3 r 9 (r := ("LastTrick$Ways", rn_F9, 10)) (rn_ws_at hq) rfl (rn_ws_at hr) rfl (rn_in_ok hi) hdg (fun H1 locs1 g1 _ g3 => kk H1 locs1 ?_ g3)
              rw [rn_ws_shp hq]
              show va_P _ _ ((rn_ws κ σ).set q (rn_ad κ q, .inl (κ.2.1 3, n, .inr (.inr (.inr (.inr (rn_rc κ _))))))) _
              rw [hrc]; exact g1
            · refine va_astq hx hb hK hP hD hS q 4 r 5 (r := ("LastTrick$Sheet", rn_F5, 4)) (rn_ws_at hq) rfl (rn_ws_at hr) rfl (rn_in_ok hi) hdg (fun H1 locs1 g1 _ g3 => kk H1 locs1 ?_ g3)
              rw [rn_ws_shp hq]
              show va_P _ _ ((rn_ws κ σ).set q (rn_ad κ q, .inl (κ.2.1 4, n, .inr (.inr (.inr (.inr (rn_rc κ _))))))) _
              rw [hrc]; exact g1
          · cases h
        · cases h
      · cases h
    · cases h
  · -- arraycopy
    split at h
    · rename_i ha
      split at h
      · split at h
        · split at h
          · rename_i n dp q sp r T _ _ t n0 f0 u n1 f1 hr hq hh
            cases h
            obtain ⟨rfl, rfl, h1, h2, h3, h4, h5, h6⟩ := hh
            unfold rn_fact at hf
            dsimp only at hf
            rw [if_pos ha] at hf
            obtain ⟨w1, w2, w3, w4⟩ := hf
            refine va_copyi hx hb hml hown (hts _ w1) (hts _ w2) (hts _ w3) (hts _ w4) hK hP hD hS r q 0 0 (rn_ws_at hr) (rn_ws_at hq) rfl rfl rfl h1 h2 h3 h4 h5 (fun _ _ => rfl) hR1 ?_ hdg (fun H1 locs1 g1 _ g3 => kk H1 locs1 ?_ g3)
            · have : nativeFrameWords "java/lang/System" "arraycopy" 5 = 7 := by decide
              rw [this, List.map_map]
              simp only [Function.comp_def, rn_cv_cat]
              omega
            · rw [rn_ws_mem hq _ _ (fun j hj => rn_row_ne _ _ hj) (fun _ _ => rfl)]
              show va_P _ _ ((rn_ws κ σ).set q (rn_ad κ q, .inl (κ.2.1 0, n1, .inl (rn_row _ _ _ q)))) _
              rw [rn_row_self]; exact g1
          · cases h
        · cases h
      · cases h
    · cases h
  · -- Object.<init>
    split at h
    · rename_i ha
      split at h
      · split at h
        · rename_i r T h6
          cases h
          unfold rn_fact at hf
          dsimp only at hf
          rw [if_pos ha] at hf
          obtain ⟨w1, w2, w3⟩ := hf
          refine W.objInit hx hb hown (hts _ w1) (hts _ w2) (hts _ w3) rfl hml.symm rfl hdg hR1 ?_ (kk H locs hP hS)
          have := lv_room (m := m) (pc := pc) (ls := ls) (rest := (Value.ref r :: S2).map (rn_cv κ)) (st := S2.map (rn_cv κ)) (by rw [List.map_map]; simp only [Function.comp_def, rn_cv_cat]; exact h6)
          omega
        · cases h
      · cases h
    · cases h
  · cases h
end RNW
