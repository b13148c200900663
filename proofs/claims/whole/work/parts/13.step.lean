/-! THE ABSTRACT RUN IS THE MACHINE'S: by the fuel -/
theorem rn_goodin (w0 : Cond) (h : w0 ∈ rn_tbl) (hg : goodWord w0 = true) : GoodIn rn_tbl (w0 :: rn_gd) := by
  intro w hw
  rcases List.mem_cons.mp hw with rfl | hw
  · exact ⟨h, good_of_word hg⟩
  · obtain ⟨h1, h2⟩ := List.mem_filter.mp hw
    exact ⟨List.mem_filter.mpr ⟨h1, by rw [h2]; rfl⟩, good_of_word h2⟩
section RNSTEP
variable {p : Program} {l : Launch} {e : Env} {R : Room} {s : State} {m : MethodId} {args : Array Value} {below : List Frame} {meth : Method} {c : Code} {H : Heap} {locs : List Loc} {cells slots : Nat} {Q : State → Prop}
variable {cc : ByteArray} {pc : Nat} {ls : Array Slot} {σ : rn_H}
theorem rn_size (κ : rn_K) {len0 : Nat} {g : JFrame} (h9 : σ.1.length ≤ 9000) (hs0 : s.heap.size = κ.2.2.2.1 + len0) (hcl : cells + len0 = σ.1.length) (hP : va_P κ.1 rn_cl (rn_ws κ σ) H) (hS : va_S (rn_A κ) s.heap H locs)
    (kk : H.size = κ.2.2.2.1 + σ.1.length → W p l e R s m args below meth c H locs cells slots Q g) : W p l e R s m args below meth c H locs cells slots Q g := by
  intro T hT X
  have h1 : H.size ≤ s.heap.size + cells := by rw [← hT]; exact X.heapSize
  have h2 := hS.1
  refine kk ?_ T hT X
  by_cases h0 : σ.1.length = len0
  · omega
  · have hk : σ.1.length - 1 < σ.1.length := by omega
    have h4 := (hP _ _ (rn_ws_at (κ := κ) (List.getElem?_eq_getElem hk))).lt
    have h5 : rn_ad κ (σ.1.length - 1) = κ.2.2.2.1 + (σ.1.length - 1) := rn_ad_i κ (by omega)
    have h6 : rn_ad κ (σ.1.length - 1) < H.size := h4
    omega
theorem rn_after (κ : rn_K) {mc ms : Nat} {r2 : Option Value} {σ2 : rn_H} {st0 rest : List Value} (hr : va_Run p l e R s m args below meth c H locs cells slots mc ms (F0 m pc ls st0) rest (fun st o t => (o = .returned (r2.map (rn_cv κ)) ∧ rn_Inv κ σ2 t) ∧ va_F (rn_A κ) st t) (rn_A κ)) (hS : va_S (rn_A κ) s.heap H locs)
    (kk : ∀ (H1 : Heap) (locs1 : List Loc), va_P κ.1 rn_cl (rn_ws κ σ2) H1 → va_S (rn_A κ) s.heap H1 locs1 → W p l e R s m args below meth c H1 locs1 (cells + mc) (slots + ms) Q (F0 m (pc + 3) ls ((r2.map (rn_cv κ)).toList ++ rest))) : W p l e R s m args below meth c H locs cells slots Q (F0 m pc ls st0) := by
  intro T hT X
  obtain ⟨v, st₀, t, T', L, h0, X', hL, e1, e2, ⟨⟨hv, hI⟩, hz, hk⟩, st⟩ := hr T hT X
  have hv2 : v = r2.map (rn_cv κ) := by injection hv
  subst hv2
  rw [h0] at hz hk
  obtain ⟨t2, a1, b1⟩ := kk T'.heap (locs ++ L) (by rw [e1]; exact hI.1)
    ⟨Nat.le_trans hS.1 (by rw [e1]; exact hz), fun q h1 h2 => by rw [e1, hk q (Nat.lt_of_lt_of_le h1 hS.1) h2]; exact hS.2.1 q h1 h2, fun q hq => by
      rcases List.mem_append.mp hq with h | h
      · exact hS.2.2 q h
      · exact hL q h⟩ T' rfl X'
  exact ⟨t2, st t2 a1, b1⟩
end RNSTEP
theorem rn_cst_of {M : rn_M} {i : Instr} {len a b k : Nat} (hf : rn_fact M (i, len, a, b, k)) : rn_cst M.1.cls a i := by
  unfold rn_cst
  split
  · exact hf
  · exact hf
  · exact hf
  · trivial
theorem rn_blind (κ : rn_K) (av : List Value) (σ : rn_H) : FrameBlind (va_Pc av (rn_Inv κ σ)) := fun a U g mk h => ⟨h.1, h.2.calling g mk a⟩
theorem rn_mapcat (κ : rn_K) (S : List Value) : ((S.map (rn_cv κ)).map fun v => v.category) = S.map fun v => v.category := by
  rw [List.map_map]
  simp only [Function.comp_def, rn_cv_cat]
theorem rn_reslist (κ : rn_K) (r : Option Value) (T : List Value) : (r.toList ++ T).map (rn_cv κ) = (r.map (rn_cv κ)).toList ++ T.map (rn_cv κ) := by
  cases r <;> rfl
set_option maxHeartbeats 8000000 in
theorem rn_sim_step {l : Launch} {κ : rn_K} {n : Nat} (hG : rn_Good) (ih : rn_Sim l κ n) : rn_Sim l κ (n + 1) := by
  intro d y M pc L S σ τ r hM hrun h9 p e R s m args below meth c H locs cells slots len0 sz0 Q ls hCx hR1 hR2 hcl hsl hRc hRs hP hS hlv hEnd
  obtain ⟨hx, hb, hml, hown, hts, hK, hX, hin, hs0, hN⟩ := id hCx
  obtain ⟨i, len, a, b, k, hop, h⟩ := rn_run_cases hrun
  obtain ⟨hdg, hf⟩ := hG.1 y pc M _ hM hop
  dsimp only at hdg hf
  rcases h with h | h | h | h | h | h | h
  · obtain ⟨L2, S2, h1, h2⟩ := h
    exact rn_pure_ok κ hx hb hown hts hdg (rn_cst_of hf) hlv h1 (fun ls2 hl2 => ih d y M _ L2 S2 σ τ r hM h2 h9 p e R s m args below meth c H locs cells slots len0 sz0 Q ls2 hCx hR1 hR2 hcl hsl hRc hRs hP hS hl2 hEnd)
  · obtain ⟨S2, h1, h2⟩ := h
    exact rn_rd_ok κ hx hb hown hts hK hX hP hS hdg hf h1 (ih d y M _ L S2 σ τ r hM h2 h9 p e R s m args below meth c H locs cells slots len0 sz0 Q ls hCx hR1 hR2 hcl hsl hRc hRs hP hS hlv hEnd)
  · obtain ⟨pc2, S2, h1, h2⟩ := h
    exact rn_br_ok κ hx hb hdg h1 (ih d y M _ L S2 σ τ r hM h2 h9 p e R s m args below meth c H locs cells slots len0 sz0 Q ls hCx hR1 hR2 hcl hsl hRc hRs hP hS hlv hEnd)
  · obtain ⟨S2, σ2, h1, h2⟩ := h
    obtain ⟨e1, e2⟩ := rn_wr_sz h1
    exact rn_wr_ok κ hx hb (hml.trans hlv.2.1.symm) hown hin hts hK hP hS h9 (by omega) (by omega) hdg hf h1 (fun H2 locs2 hP2 hS2 => ih d y M _ L S2 σ2 τ r hM h2 (by omega) p e R s m args below meth c H2 locs2 cells slots len0 sz0 Q ls hCx hR1 hR2 (by omega) (by omega) hRc hRs hP2 hS2 hlv hEnd)
  · obtain ⟨S2, σ2, h1, h2⟩ := h
    obtain ⟨sh, e1, e2⟩ := rn_nw_sz h1
    have l2 : σ2.1.length = σ.1.length + 1 := by rw [e1, rn_len_push]
    have z2 : rn_sz σ2.1 = rn_sz σ.1 + sh.2.1 := by rw [e1, rn_sz_push]
    have hm := rn_mono n _ _ _ _ _ _ _ _ h2 (by omega)
    exact rn_nw_ok κ hx hb hown hts hK hP hS hs0 hcl hdg hf h1 (by omega) (by omega) (fun H2 g1 g2 g3 hP2 hS2 => ih d y M _ L S2 σ2 τ r hM h2 g2 p e R s m args below meth c H2 locs (cells + 1) _ len0 sz0 Q ls hCx hR1 hR2 (by omega) (by omega) hRc hRs hP2 hS2 hlv hEnd)
  · obtain ⟨y2, k2, d2, M2, r2, σ2, h1, rfl, hM2, hy2, hl, hk2, h8, hrcv, hr1, hr2⟩ := h
    have hm1 := rn_mono n _ _ _ _ _ _ _ _ hr1 h9
    have hm2 := rn_mono n _ _ _ _ _ _ _ _ hr2 hm1.2.2
    have hMet := rn_met_of hG ih hy2 hM2 hr1 hl h9
    have hcw := hG.2 y2 M2 hy2 hM2
    refine rn_size κ h9 hs0 hcl hP hS (fun hsz => ?_)
    have hinv : ∀ U : State, U.heap = H → s.WarmedH U.vm → rn_Inv κ σ U := fun U hU hW => ⟨by rw [hU]; exact hP, va_K.moved hW.alike hK, by rw [hU]; exact (rn_X.moved hW.alike hX).kept (fun a h1 h2 => hS.2.1 a h1 h2), by rw [hU]; exact hsz, h9, rn_N.moved hW hN⟩
    have hRf : (rn_Rm d2 (σ2.1.length - σ.1.length) (rn_sz σ2.1 - rn_sz σ.1)).frames + 1 ≤ R.frames ∧ 8 + (M2.2.2.1 + 11) + (rn_Rm d2 (σ2.1.length - σ.1.length) (rn_sz σ2.1 - rn_sz σ.1)).locals ≤ R.locals := by
      have := hcw.2.2.2.2.1
      constructor
      · show d2 + 1 + 1 ≤ _; omega
      · show 8 + (M2.2.2.1 + 11) + 60 * (d2 + 1) ≤ _; omega
    have hcells : cells + (σ2.1.length - σ.1.length) ≤ R.cells ∧ slots + (rn_sz σ2.1 - rn_sz σ.1) ≤ R.slots := by omega
    have hroom : 2 * (F0 m pc ls (S.map (rn_cv κ))).monitorRoom + (((S.drop k2).map (rn_cv κ)).map fun v => v.category).sum ≤ 8 := lv_room (by rw [rn_mapcat]; exact h8)
    have hsplit : S.map (rn_cv κ) = (((S.take k2).reverse).map (rn_cv κ)).reverse ++ (S.drop k2).map (rn_cv κ) := by
      rw [← List.map_reverse, List.reverse_reverse, ← List.map_append, List.take_append_drop]
    have hvl : ((S.take k2).reverse).length = k2 := by rw [List.length_reverse]; exact hk2
    have hgood := rn_goodin _ hcw.2.1 rfl
    have hnext : ∀ (H1 : Heap) (locs1 : List Loc), va_P κ.1 rn_cl (rn_ws κ σ2) H1 → va_S (rn_A κ) s.heap H1 locs1 → W p l e R s m args below meth c H1 locs1 (cells + (σ2.1.length - σ.1.length)) (slots + (rn_sz σ2.1 - rn_sz σ.1)) Q (F0 m (pc + 3) ls ((r2.map (rn_cv κ)).toList ++ (S.drop k2).map (rn_cv κ))) := by
      intro H1 locs1 g1 g2
      rw [← rn_reslist]
      exact ih (d2 + 1) y M _ L _ σ2 τ r hM hr2 hm1.2.2 p e R s m args below meth c H1 locs1 _ _ len0 sz0 Q ls hCx hR1 hR2 (by omega) (by omega) hRc hRs g1 g2 hlv hEnd
    have hsz2 : ls.size = M.2.2.1 := hlv.2.1
    generalize hvs : (S.take k2).reverse = vs at *
    unfold rn_cal at h1
    split at h1
    · -- invokevirtual
      rename_i ix
      cases h1
      obtain ⟨M3, f1, ⟨Tc, Nc, f2⟩, f3, f4, f5, f6, f7⟩ := hf
      cases hM2.symm.trans f1
      unfold rn_rcv at hrcv
      dsimp only at hrcv
      split at hrcv
      · rename_i q As
        split at hrcv
        · rename_i _ t nn ff hq
          have ht := of_decide_eq_true hrcv
          subst ht
          rw [hsplit]
          have hst : (((Value.ref q :: As).map (rn_cv κ)).reverse ++ (S.drop b).map (rn_cv κ)) = (As.map (rn_cv κ)).reverse ++ .ref (rn_ad κ q) :: (S.drop b).map (rn_cv κ) := by
            rw [List.map_cons, List.reverse_cons, List.append_assoc]; rfl
          have hAs : (As.map (rn_cv κ)).length = b - 1 := by rw [List.length_map]; simp only [List.length_cons] at hvl; omega
          refine rn_after κ (va_runV ⟨hx, hb, hml, hown, hts⟩ hMet (C := M2.1.cls) (n := b - 1) ⟨callB_of (b - 1) hts hgood rfl rfl rfl (hts _ hcw.1) (hts _ f3) ⟨hcw.2.2.1, hcw.2.2.2.1, f7⟩ hRf, hts _ f4, hts _ f5⟩ ⟨rn_blind κ _ σ, va_recv hK hP f2 (rn_ws_at hq), fun U hU hW => ⟨rfl, hinv U hU hW⟩⟩ rfl hAs hsz2 hst ?_ hdg hcells) hS hnext
          exact lv_room (by rw [rn_mapcat]; exact h8)
        · cases hrcv
      · cases hrcv
    · -- invokestatic
      rename_i ix
      split at h1
      · cases h1
      · rename_i ha
        cases h1
        unfold rn_fact at hf
        dsimp only at hf
        rw [if_neg ha] at hf
        obtain ⟨M3, f1, f3, f4, f7⟩ := hf
        cases hM2.symm.trans f1
        rw [hsplit]
        have hAs : (vs.map (rn_cv κ)).length = b := by rw [List.length_map]; exact hvl
        rcases f3 with f3 | f3
        · refine rn_after κ (va_runS ⟨hx, hb, hml, hown, hts⟩ hMet (n := b) ⟨callB_of b hts hgood rfl rfl rfl (hts _ hcw.1) (hts _ f3) ⟨hcw.2.2.1, hcw.2.2.2.1, f7⟩ hRf, hts _ f4⟩ ⟨rn_blind κ _ σ, fun U hU hW => ⟨rfl, hinv U hU hW⟩⟩ rfl hAs hsz2 rfl ?_ hdg hcells) hS hnext
          exact lv_room (by rw [rn_mapcat]; exact h8)
        · refine rn_after κ (va_runSN ⟨hx, hb, hml, hown, hts⟩ hMet (n := b) (host := "LastTrick") ⟨va_cnB b hts hgood rfl rfl rfl (va_Nw.of rfl (hts _ f3)) (hts _ hcw.1) ⟨hcw.2.2.1, hcw.2.2.2.1, f7⟩ hRf, hts _ f4, trivial⟩ ⟨rn_blind κ _ σ, fun U hU hW => ⟨rfl, hinv U hU hW⟩⟩ rfl hAs hsz2 rfl ?_ hdg hcells) hS hnext
          exact lv_room (by rw [rn_mapcat]; exact h8)
    · -- invokespecial
      rename_i ix
      split at h1
      · cases h1
      · rename_i ha
        cases h1
        unfold rn_fact at hf
        dsimp only at hf
        rw [if_neg ha] at hf
        obtain ⟨M3, f1, f2, f3, f4, f5, f6, f7⟩ := hf
        cases hM2.symm.trans f1
        unfold rn_Met at hMet
        rw [f3] at hMet hgood
        unfold rn_rcv at hrcv
        dsimp only at hrcv
        split at hrcv
        · rename_i q As
          rw [hsplit]
          have hst : (((Value.ref q :: As).map (rn_cv κ)).reverse ++ (S.drop b).map (rn_cv κ)) = (As.map (rn_cv κ)).reverse ++ .ref (rn_ad κ q) :: (S.drop b).map (rn_cv κ) := by
            rw [List.map_cons, List.reverse_cons, List.append_assoc]; rfl
          have hAs : (As.map (rn_cv κ)).length = b - 1 := by rw [List.length_map]; simp only [List.length_cons] at hvl; omega
          rcases f5 with f5 | f5
          · refine rn_after κ (va_runI ⟨hx, hb, hml, hown, hts⟩ hMet (n := b - 1) ⟨callB_of (b - 1) hts hgood rfl rfl rfl (hts _ hcw.1) (hts _ f5) ⟨hcw.2.2.1, hcw.2.2.2.1, f7⟩ hRf, f2, hts _ f4⟩ ⟨rn_blind κ _ σ, fun U hU hW => ⟨rfl, hinv U hU hW⟩⟩ rfl hAs hsz2 hst ?_ hdg hcells) hS hnext
            exact lv_room (by rw [rn_mapcat]; exact h8)
          · refine rn_after κ (va_runIN ⟨hx, hb, hml, hown, hts⟩ hMet (n := b - 1) (host := "LastTrick") ⟨va_cnB (b - 1) hts hgood rfl rfl rfl (va_Nw.of rfl (hts _ f5)) (hts _ hcw.1) ⟨hcw.2.2.1, hcw.2.2.2.1, f7⟩ hRf, f2, hts _ f4⟩ ⟨rn_blind κ _ σ, fun U hU hW => ⟨rfl, hinv U hU hW⟩⟩ rfl hAs hsz2 hst ?_ hdg hcells) hS hnext
            exact lv_room (by rw [rn_mapcat]; exact h8)
        · cases hrcv
    · cases h1
  · obtain ⟨M3, g1, g2, rfl⟩ := h
    cases hM.symm.trans g1
    refine rn_size κ h9 hs0 hcl hP hS (fun hsz => ?_)
    have hl1 : rn_len i len = 1 := by
      unfold rn_ret at g2
      split at g2 <;> first | rfl | cases g2
    rw [hl1] at hdg
    have := hEnd pc ls H locs i S hP hS hdg g2 hsz
    rw [show τ.1.length - len0 = cells by omega, show rn_sz τ.1 - sz0 = slots by omega] at this
    exact this
theorem rn_sim {l : Launch} {κ : rn_K} (hG : rn_Good) : ∀ n, rn_Sim l κ n
  | 0 => by
    intro d y M pc L S σ τ r hM hrun
    unfold rn_run at hrun
    cases hrun
  | n + 1 => rn_sim_step hG (rn_sim hG n)
