/-! THE ABSTRACT RUN IS THE MACHINE'S: the heap -/
theorem rn_e_obj (κ : rn_K) (M : rn_Mem) (p a n : Nat) (fs : List Nat) : rn_e κ M p (a + 5, n, fs) = .inr (a, rn_fs κ M p fs) := rfl
theorem rn_fs_get {κ : rn_K} {M : rn_Mem} {p b code : Nat} {fs : List Nat} (h : fs[b]? = some code) : (rn_fs κ M p fs)[b]? = some (rn_cv κ (rn_fv M p b code)) := by
  unfold rn_fs
  rw [List.getElem?_mapIdx, h]; rfl
theorem rn_in_ok {i : Int32} {n : Nat} (h : rn_in i n = true) : vp_in i n := by
  unfold rn_in at h
  unfold vp_in
  exact of_decide_eq_true h
theorem rn_ext3 (q : Nat) (h : ¬ q < 10000) (h2 : q < 10003) : q = 10000 ∨ q = 10001 ∨ q = 10002 := by omega
theorem rn_ad_x (κ : rn_K) {q : Nat} (h : ¬ q < 10000) : rn_ad κ q = κ.2.2.1 q := by unfold rn_ad; rw [if_neg h]
theorem rn_ad_i (κ : rn_K) {q : Nat} (h : q < 10000) : rn_ad κ q = κ.2.2.2.1 + q := by unfold rn_ad; rw [if_pos h]
section RNH
variable {p : Program} {l : Launch} {e : Env} {R : Room} {s : State} {m : MethodId} {args : Array Value} {below : List Frame} {meth : Method} {c : Code} {H : Heap} {locs : List Loc} {cells slots : Nat} {Q : State → Prop}
variable {cc : ByteArray} {pc : Nat} {ls : Array Slot} {σ : rn_H}
set_option maxHeartbeats 4000000 in
theorem rn_rd_ok (κ : rn_K) {M : rn_M} (hx : p.tables.exec = Jvm.exec) (hb : c.code = cc) (hown : s.vm.findClass M.1.cls = some m.cls) (hts : ∀ w ∈ rn_tbl, w.before args s = true) (hK : va_K κ.1 rn_cl (rn_tys κ) s) (hX : rn_X κ s s.heap)
    (hP : va_P κ.1 rn_cl (rn_ws κ σ) H) (hS : va_S (rn_A κ) s.heap H locs)
    {i : Instr} {len a b k : Nat} {S S2 : List Value} (hdg : decode cc pc = .ok (i, rn_len i len)) (hf : rn_fact M (i, len, a, b, k)) (h : rn_rd κ.2.2.2.2 a b i S σ = some S2)
    (kk : W p l e R s m args below meth c H locs cells slots Q (F0 m (pc + rn_len i len) ls (S2.map (rn_cv κ)))) :
    W p l e R s m args below meth c H locs cells slots Q (F0 m pc ls (S.map (rn_cv κ))) := by
  unfold rn_rd at h
  split at h
  · -- getfield
    split at h
    · split at h
      · split at h
        · split at h
          · rename_i q T _ t n fs hq ht _ code hc
            cases h
            subst ht
            obtain ⟨C, Tt, N, h1, h2, h3⟩ := hf
            exact va_get hx hb hts (rn_cls_ok h1).1 hown hK hP q (rn_ws_at hq) h1 b h2 (hts _ h3) (fun x hx => hx) (rn_fs_get hc) hdg kk
          · cases h
        · cases h
      · cases h
    · cases h
  · -- getstatic
    cases h
    obtain ⟨h1, h2⟩ := hf
    have hz : va_Z "LastTrick" (rn_stn a) "[I" (rn_cv κ (.ref (10000 + a))) (rn_A κ) s s.heap := by
      show va_Z _ _ _ (.ref (rn_ad κ (10000 + a))) _ _ _
      rw [rn_ad_x κ (by omega)]
      rcases (show a = 0 ∨ a = 1 by omega) with rfl | rfl
      · exact hX.2.2.2.1
      · exact hX.2.2.2.2
    rcases h2 with ⟨-, h2⟩ | ⟨-, h2⟩
    · exact va_gets hx hb hz hS hown (hts _ h2) (fun x hx => hx) hdg kk
    · exact va_getsN hx hb hz hS hown (hts _ h2) (fun x hx => hx) hdg kk
  · -- iaload
    split at h
    · split at h
      · split at h
        · split at h
          · split at h
            · rename_i j q T hlt _ t n fs hq ht hi
              cases h
              subst ht
              exact va_iald hx hb hK hP q 0 (rn_ws_at hq) rfl (rn_in_ok hi) hdg kk
            · cases h
          · cases h
        · cases h
      · split at h
        · rename_i j q T hlt hi
          cases h
          show W p l e R s m args below meth c H locs cells slots Q (F0 m pc ls (.int j :: .ref (rn_ad κ q) :: _))
          rw [rn_ad_x κ hlt]
          unfold rn_ext at hi kk
          split at hi
          · rename_i e1
            subst e1
            exact va_ti hx hb hX.1 hS (rn_in_ok hi) rfl hdg kk
          · rename_i e1
            rw [if_neg e1] at kk
            split at hi
            · rename_i e2
              subst e2
              exact va_ti hx hb hX.2.1 hS (rn_in_ok hi) rfl hdg kk
            · rename_i e2
              rw [if_neg e2] at kk
              split at hi
              · rename_i e3
                subst e3
                exact va_ti hx hb hX.2.2.1 hS (rn_in_ok hi) rfl hdg kk
              · exact absurd (rn_in_ok hi) (fun z => z (Or.inr (Nat.zero_le _)))
        · cases h
    · cases h
  · -- baload
    split at h
    · split at h
      · split at h
        · split at h
          · rename_i j q T _ t n fs hq ht hi
            cases h
            subst ht
            exact va_bald hx hb hK hP q 2 (rn_ws_at hq) rfl (rn_in_ok hi) hdg kk
          · cases h
        · cases h
      · cases h
    · cases h
  · -- laload
    split at h
    · split at h
      · split at h
        · split at h
          · rename_i j q T _ t n fs hq ht hi
            cases h
            subst ht
            exact va_lald hx hb hK hP q 1 (rn_ws_at hq) rfl (rn_in_ok hi) hdg kk
          · cases h
        · cases h
      · cases h
    · cases h
  · -- aaload
    split at h
    · split at h
      · split at h
        · split at h
          · split at h
            · rename_i j q T _ t n fs hq ht hi _ q2 hc
              cases h
              have hv : va_rf (rn_rc κ fs j.toNatClampNeg) = rn_cv κ (.ref q2) := by unfold rn_rc; rw [hc]; rfl
              rcases ht with rfl | rfl
              · refine va_aldq hx hb hK hP q 3 (rn_ws_at hq) rfl (rn_in_ok hi) hdg ?_
                rw [hv]; exact kk
              · refine va_aldq hx hb hK hP q 4 (rn_ws_at hq) rfl (rn_in_ok hi) hdg ?_
                rw [hv]; exact kk
            · cases h
          · cases h
        · cases h
      · cases h
    · cases h
  · -- arraylength
    split at h
    · split at h
      · split at h
        · split at h
          · rename_i q T hlt _ t n fs hq ht
            cases h
            rcases (show t = 0 ∨ t = 1 ∨ t = 2 ∨ t = 3 ∨ t = 4 by omega) with rfl | rfl | rfl | rfl | rfl
            · exact va_alen hx hb hK hP q 0 (rn_ws_at hq) rfl rfl hdg kk
            · exact va_alen hx hb hK hP q 1 (rn_ws_at hq) rfl rfl hdg kk
            · exact va_alen hx hb hK hP q 2 (rn_ws_at hq) rfl rfl hdg kk
            · exact va_alen hx hb hK hP q 3 (rn_ws_at hq) rfl rfl hdg kk
            · exact va_alen hx hb hK hP q 4 (rn_ws_at hq) rfl rfl hdg kk
          · cases h
        · cases h
      · split at h
        · rename_i q T hlt hq
          cases h
          have go : ∀ {N : Nat} {f : Nat → Value}, va_T .int (κ.2.2.1 q) N f (rn_A κ) s s.heap → (rn_ext κ.2.2.2.2 q).length = N → W p l e R s m args below meth c H locs cells slots Q (F0 m pc ls (.ref (rn_ad κ q) :: T.map (rn_cv κ))) := by
            intro N f hT hN
            obtain ⟨cell, h1, h2, h3, h4, h5, h6, h7⟩ := hT
            rw [rn_ad_x κ hlt]
            refine W.alen hx hb (by rw [hS.2.1 _ (Array.getElem?_eq_some_iff.mp h1).1 h7]; exact h1) h2 h5 rfl rfl hdg ?_
            rw [hN] at kk
            exact kk
          rcases rn_ext3 q hlt hq with rfl | rfl | rfl
          · exact go hX.1 rfl
          · exact go hX.2.1 rfl
          · exact go hX.2.2.1 rfl
        · cases h
    · cases h
  · cases h
theorem rn_up_self (f : Nat → Nat → Int32) (p i : Nat) (x : Int32) : rn_up f p i x p = upd (f p) i x := by unfold rn_up; rw [if_pos rfl]
theorem rn_up_ne (f : Nat → Nat → Int32) {p q : Nat} (i : Nat) (x : Int32) (h : q ≠ p) : rn_up f p i x q = f q := by unfold rn_up; rw [if_neg h]
theorem rn_uq_self (f : Nat → Nat → Int64) (p i : Nat) (x : Int64) : rn_uq f p i x p = vp_updL (f p) i x := by unfold rn_uq; rw [if_pos rfl]
theorem rn_uq_ne (f : Nat → Nat → Int64) {p q : Nat} (i : Nat) (x : Int64) (h : q ≠ p) : rn_uq f p i x q = f q := by unfold rn_uq; rw [if_neg h]
theorem rn_row_self (f : Nat → Nat → Int32) (p : Nat) (g : Nat → Int32) : rn_row f p g p = g := by unfold rn_row; rw [if_pos rfl]
theorem rn_row_ne (f : Nat → Nat → Int32) {p q : Nat} (g : Nat → Int32) (h : q ≠ p) : rn_row f p g q = f q := by unfold rn_row; rw [if_neg h]
/-- a field is changed -/
theorem rn_fs_set (κ : rn_K) {M M2 : rn_Mem} {p b n0 : Nat} {fs fs2 : List Nat} {v : Value} (hl : fs2.length = fs.length) (hb : b < fs.length) (hv : ∃ code, fs2[b]? = some code ∧ rn_cv κ (rn_fv M2 p b code) = v) (ho : ∀ j, j ≠ b → fs2[j]? = fs[j]? ∧ M2.1 p j = M.1 p j ∧ M2.2 p j = M.2 p j) : rn_fs κ M2 p fs2 = (rn_fs κ M p fs).set b v := by
  apply List.ext_getElem?
  intro j
  rw [List.getElem?_set]
  unfold rn_fs
  rw [List.getElem?_mapIdx, List.getElem?_mapIdx]
  by_cases e : b = j
  · subst e
    obtain ⟨code, h1, h2⟩ := hv
    rw [if_pos rfl, h1, if_pos (by rw [List.length_mapIdx]; exact hb)]
    simp only [Option.map_some, h2]
  · rw [if_neg e]
    obtain ⟨h1, h2, h3⟩ := ho j (fun z => e z.symm)
    rw [h1]
    have : ∀ code, rn_fv M2 p j code = rn_fv M p j code := by
      intro code
      unfold rn_fv
      split <;> simp only [h2, h3]
    cases fs[j]? with
    | none => rfl
    | some code => simp only [Option.map_some, this]
theorem rn_upd_ne (f : Nat → Int32) {i j : Nat} (x : Int32) (h : j ≠ i) : upd f i x j = f j := by unfold upd; rw [if_neg h]
theorem rn_updL_ne (f : Nat → Int64) {i j : Nat} (x : Int64) (h : j ≠ i) : vp_updL f i x j = f j := by unfold vp_updL; rw [if_neg h]
set_option maxHeartbeats 4000000 in
theorem rn_put_ok (κ : rn_K) {M : rn_M} (hx : p.tables.exec = Jvm.exec) (hb : c.code = cc) (hown : s.vm.findClass M.1.cls = some m.cls) (hin : M.1.name = "<init>" → meth.name = "<init>") (hts : ∀ w ∈ rn_tbl, w.before args s = true) (hK : va_K κ.1 rn_cl (rn_tys κ) s)
    (hP : va_P κ.1 rn_cl (rn_ws κ σ) H) (hS : va_S (rn_A κ) s.heap H locs) (hlen : σ.1.length ≤ 9000)
    {ix len a b k q n code : Nat} {fs : List Nat} {v : Value} {T : List Value} {τ : rn_H} (hdg : decode cc pc = .ok (.putfield ix, 3)) (hf : rn_fact M (.putfield ix, len, a, b, k))
    (hq : σ.1[q]? = some (a + 5, n, fs)) (hc : fs[b]? = some code) (hty2 : ∀ t2, rn_kty k (some t2) = true → narrow t2 (rn_cv κ v) = rn_cv κ v ∧ fits t2 (rn_cv κ v) = true)
    (hset : rn_ws κ τ = (rn_ws κ σ).set q (rn_ad κ q, .inr (a, (rn_fs κ σ.2 q fs).set b (rn_cv κ v))))
    (kk : ∀ (H2 : Heap) (locs2 : List Loc), va_P κ.1 rn_cl (rn_ws κ τ) H2 → va_S (rn_A κ) s.heap H2 locs2 → W p l e R s m args below meth c H2 locs2 cells slots Q (F0 m (pc + 3) ls (T.map (rn_cv κ)))) :
    W p l e R s m args below meth c H locs cells slots Q (F0 m pc ls ((v :: .ref q :: T).map (rn_cv κ))) := by
  obtain ⟨C, Tt, N, h1, h2, h3, h4, h5⟩ := hf
  obtain ⟨k1, k2, k3⟩ := rn_cls_ok h1
  have hpar := k3 b h2
  rw [hpar] at h4
  obtain ⟨e1, e2⟩ := hty2 _ h4
  have hl : b < (rn_fs κ σ.2 q fs).length := by unfold rn_fs; rw [List.length_mapIdx]; exact (List.getElem?_eq_some_iff.mp hc).1
  rcases h5 with h5 | ⟨h5, h6, h7⟩
  · refine va_put hx hb hts k1 (rn_ft a) k3 k2 hown hK hP (rn_D κ hlen) hS q (rn_ws_at hq) h1 b h2 (hts _ h3) (fun x hx => hx) h5 hpar e1 e2 hl hdg (fun H1 locs1 g1 _ g3 => ?_)
    refine kk H1 locs1 ?_ g3
    rw [hset]; exact g1
  · refine va_putF hx hb hts k1 (rn_ft a) k3 k2 hown hK hP (rn_D κ hlen) hS q (rn_ws_at hq) h1 b h2 (hts _ h3) (fun x hx => hx) h5 (hin h6) h7 hpar e1 e2 hl hdg (fun H1 locs1 g1 _ g3 => ?_)
    refine kk H1 locs1 ?_ g3
    rw [hset]; exact g1
end RNH
