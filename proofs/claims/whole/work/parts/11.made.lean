/-! THE ABSTRACT RUN IS THE MACHINE'S: what is made -/
def rn_sz (SH : List rn_Sh) : Nat := (SH.map fun q => q.2.1).sum
theorem rn_sz_push (sh : rn_Sh) (σ : rn_H) : rn_sz (rn_push sh σ).1 = rn_sz σ.1 + sh.2.1 := by
  show ((σ.1 ++ [sh]).map fun q => q.2.1).sum = _
  rw [List.map_append, List.sum_append]
  simp [rn_sz]
theorem rn_len_push (sh : rn_Sh) (σ : rn_H) : (rn_push sh σ).1.length = σ.1.length + 1 := by
  show (σ.1 ++ [sh]).length = _
  simp
def rn_tok (t : FieldType) : Bool := match t with
  | .int => true
  | .long => true
  | .boolean => true
  | .object _ => true
  | .array _ => true
  | _ => false
theorem rn_ftok : ∀ ci, ci < 12 → ∀ k, k < 60 → rn_tok (rn_ft ci k) = true := by decide +kernel
theorem rn_clN {a : Nat} {q : vw_C} (h : rn_cl[a]? = some q) : a < 12 ∧ q.2.2 ≤ 60 := by
  match a, h with
  | 0, h => cases h; decide
  | 1, h => cases h; decide
  | 2, h => cases h; decide
  | 3, h => cases h; decide
  | 4, h => cases h; decide
  | 5, h => cases h; decide
  | 6, h => cases h; decide
  | 7, h => cases h; decide
  | 8, h => cases h; decide
  | 9, h => cases h; decide
  | 10, h => cases h; decide
  | 11, h => cases h; decide
  | k + 12, h => simp [rn_cl] at h
theorem rn_born (κ : rn_K) {a : Nat} {C : String} {T : u_T} {N : Nat} (h : rn_cl[a]? = some (C, T, N)) (σ : rn_H) (sh : rn_Sh) : (rn_kinds a).length = N ∧ ∀ j, j < N → defaultValue (rn_ft a j) = vp_V (rn_fs κ (rn_push sh σ).2 σ.1.length (rn_kinds a)) j := by
  obtain ⟨ha, hN⟩ := rn_clN h
  have hN : N ≤ 60 := hN
  unfold rn_kinds
  rw [h]
  dsimp only
  refine ⟨by simp, fun j hj => ?_⟩
  have hg : ((List.range N).map fun k => rn_kd (rn_ft a k))[j]? = some (rn_kd (rn_ft a j)) := by
    rw [List.getElem?_map, List.getElem?_range hj]; rfl
  have hf := rn_fs_get (κ := κ) (M := (rn_push sh σ).2) (p := σ.1.length) hg
  unfold vp_V
  rw [List.getD_eq_getElem?_getD, hf]
  have hk := rn_ftok a ha j (by omega)
  have z1 : (rn_push sh σ).2.1 σ.1.length j = 0 := by show rn_z32 _ _ _ _ = _; unfold rn_z32; rw [if_pos rfl]
  have z2 : (rn_push sh σ).2.2 σ.1.length j = 0 := by show rn_z64 _ _ _ _ = _; unfold rn_z64; rw [if_pos rfl]
  cases ht : rn_ft a j <;> rw [ht] at hk <;> first | (simp [rn_tok] at hk; done) | skip
  · show _ = rn_cv κ (.int _); rw [z1]; rfl
  · show _ = rn_cv κ (.long _); rw [z2]; rfl
  · show _ = rn_cv κ (.int _); rw [z1]; rfl
  · rfl
  · rfl
section RNM
variable {p : Program} {l : Launch} {e : Env} {R : Room} {s : State} {m : MethodId} {args : Array Value} {below : List Frame} {meth : Method} {c : Code} {H : Heap} {locs : List Loc} {cells slots : Nat} {Q : State → Prop}
variable {cc : ByteArray} {pc : Nat} {ls : Array Slot} {σ : rn_H}
/-- the new cell lies behind all others -/
theorem rn_fresh (κ : rn_K) {len0 q sl2 : Nat} {ent : va_E} {g : JFrame} (hlen : σ.1.length < 9000) (hs0 : s.heap.size = κ.2.2.2.1 + len0) (hcl : cells + len0 = σ.1.length) (hP : va_P κ.1 rn_cl (rn_ws κ σ ++ [(q, ent)]) H) (hD : va_D (rn_A κ) (rn_ws κ σ ++ [(q, ent)]))
    (kk : q = rn_ad κ σ.1.length → W p l e R s m args below meth c H locs (cells + 1) sl2 Q g) : W p l e R s m args below meth c H locs (cells + 1) sl2 Q g := by
  intro T hT X
  have h1 : H.size ≤ s.heap.size + (cells + 1) := by rw [← hT]; exact X.heapSize
  have hlast : (rn_ws κ σ ++ [(q, ent)])[σ.1.length]? = some (q, ent) := by
    rw [List.getElem?_append_right (by rw [rn_ws_len]; exact Nat.le_refl _), rn_ws_len]; simp
  have h2 : q < H.size := (hP _ _ hlast).lt
  have h3 : κ.2.2.2.1 ≤ q := hD.2 _ _ hlast
  refine kk ?_ T hT X
  rw [rn_ad_i κ (by omega)]
  by_cases hq : q = κ.2.2.2.1 + σ.1.length
  · exact hq
  · exfalso
    have hk : q - κ.2.2.2.1 < σ.1.length := by omega
    obtain ⟨sh, hsh⟩ : ∃ sh, σ.1[q - κ.2.2.2.1]? = some sh := ⟨_, List.getElem?_eq_getElem hk⟩
    have h4 : (rn_ws κ σ ++ [(q, ent)])[q - κ.2.2.2.1]? = some (rn_ad κ (q - κ.2.2.2.1), rn_e κ σ.2 (q - κ.2.2.2.1) sh) := by
      rw [List.getElem?_append_left (by rw [rn_ws_len]; exact hk)]
      exact rn_ws_at hsh
    have := hD.1 _ _ _ _ h4 hlast (by rw [rn_ad_i κ (by omega)]; show κ.2.2.2.1 + (q - κ.2.2.2.1) = q; omega)
    omega
set_option maxHeartbeats 8000000 in
theorem rn_nw_ok (κ : rn_K) {M : rn_M} (hx : p.tables.exec = Jvm.exec) (hb : c.code = cc) (hown : s.vm.findClass M.1.cls = some m.cls) (hts : ∀ w ∈ rn_tbl, w.before args s = true) (hK : va_K κ.1 rn_cl (rn_tys κ) s)
    (hP : va_P κ.1 rn_cl (rn_ws κ σ) H) (hS : va_S (rn_A κ) s.heap H locs) {len0 : Nat} (hs0 : s.heap.size = κ.2.2.2.1 + len0) (hcl : cells + len0 = σ.1.length)
    {i : Instr} {len a b k : Nat} {S S2 : List Value} {τ : rn_H} (hdg : decode cc pc = .ok (i, rn_len i len)) (hf : rn_fact M (i, len, a, b, k)) (h : rn_nw a i S σ = some (S2, τ)) (hR1 : cells + 1 ≤ R.cells) (hR2 : slots + (rn_sz τ.1 - rn_sz σ.1) ≤ R.slots)
    (kk : ∀ (H2 : Heap), τ.1.length = σ.1.length + 1 → τ.1.length ≤ 9000 → rn_sz σ.1 ≤ rn_sz τ.1 → va_P κ.1 rn_cl (rn_ws κ τ) H2 → va_S (rn_A κ) s.heap H2 locs → W p l e R s m args below meth c H2 locs (cells + 1) (slots + (rn_sz τ.1 - rn_sz σ.1)) Q (F0 m (pc + rn_len i len) ls (S2.map (rn_cv κ)))) :
    W p l e R s m args below meth c H locs cells slots Q (F0 m pc ls (S.map (rn_cv κ))) := by
  have hA : ∀ q, s.heap.size ≤ q → rn_A κ q := fun q hq => by unfold rn_A; omega
  unfold rn_nw at h
  split at h
  · rename_i hlen
    have hD := rn_D κ (Nat.le_of_lt hlen)
    have szp : ∀ sh : rn_Sh, rn_sz (rn_push sh σ).1 - rn_sz σ.1 = sh.2.1 := fun sh => by rw [rn_sz_push]; omega
    split at h
    · -- new
      cases h
      obtain ⟨C, T, N, h1, w1, w2, w3⟩ := hf
      obtain ⟨k1, k2, k3⟩ := rn_cls_ok h1
      obtain ⟨b1, b2⟩ := rn_born κ h1 σ (a + 5, (rn_kinds a).length, rn_kinds a)
      rw [szp] at hR2 kk
      dsimp only at hR2 kk
      refine va_new hx hb hts k1 (rn_ft a) k3 hown (hts _ w1) (hts _ w2) (hts _ w3) hK hP hD hS hA h1 (fs := rn_fs κ (rn_push (a + 5, (rn_kinds a).length, rn_kinds a) σ).2 σ.1.length (rn_kinds a)) b2 hR1 (by rw [← b1]; exact hR2) hdg (fun q H1 g1 g2 g3 => ?_)
      refine rn_fresh κ hlen hs0 hcl g1 g2 (fun hq => ?_)
      subst hq
      have := kk H1 (rn_len_push _ _) (by rw [rn_len_push]; omega) (by rw [rn_sz_push]; omega) (by rw [rn_ws_push, rn_e_obj]; exact g1) g3
      rw [b1] at this
      exact this
    · -- newarray
      split at h
      · split at h
        · cases h
        · rename_i n T hn
          have hn0 : ¬ n < 0 := fun z => hn (Or.inl z)
          have hn1 : n.toNatClampNeg ≤ 1000 := Nat.not_lt.mp fun z => hn (Or.inr z)
          have same : ∀ {cA cB : ClassId} {ty : FieldType}, (∀ C, ty ≠ .object C) → va_RA s cA ty → va_RA s cB ty → cA = cB := by
            intro cA cB ty hne ha hb
            cases ty with
            | object C => exact absurd rfl (hne C)
            | _ => exact Option.some.inj (ha.symm.trans hb)
          split at h
          · cases h
            rw [szp] at hR2 kk
            dsimp only at hR2 kk
            refine va_newa hx hb (hts _ hf) rfl hK hP hD hS hA (a0 := (n.toNatClampNeg, .inl fun _ => 0)) (fun _ => rfl) hn0 rfl (by show _ * 4 ≤ _; omega) hR1 hR2 hdg (fun q cA H1 g0 g1 g2 g3 => ?_)
            refine rn_fresh κ hlen hs0 hcl g1 g2 (fun hq => ?_)
            subst hq
            have e1 : cA = κ.2.1 0 := same (fun _ => by simp) (g0.2 5 (cA, .int) rfl).2 (hK.2 0 (κ.2.1 0, .int) rfl).2
            refine kk H1 (rn_len_push _ _) (by rw [rn_len_push]; omega) (by rw [rn_sz_push]; omega) ?_ g3
            rw [rn_ws_push]
            show va_P _ _ (_ ++ [(_, .inl (κ.2.1 0, n.toNatClampNeg, .inl (rn_z32 _ _ _)))]) _
            unfold rn_z32
            rw [if_pos rfl, ← e1]
            exact g1
          · cases h
            rw [szp] at hR2 kk
            dsimp only at hR2 kk
            refine va_newa hx hb (hts _ hf) rfl hK hP hD hS hA (a0 := (n.toNatClampNeg, .inr (.inl fun _ => 0))) (fun _ => rfl) hn0 rfl (by show _ * 8 ≤ _; omega) hR1 hR2 hdg (fun q cA H1 g0 g1 g2 g3 => ?_)
            refine rn_fresh κ hlen hs0 hcl g1 g2 (fun hq => ?_)
            subst hq
            have e1 : cA = κ.2.1 1 := same (fun _ => by simp) (g0.2 5 (cA, .long) rfl).2 (hK.2 1 (κ.2.1 1, .long) rfl).2
            refine kk H1 (rn_len_push _ _) (by rw [rn_len_push]; omega) (by rw [rn_sz_push]; omega) ?_ g3
            rw [rn_ws_push]
            show va_P _ _ (_ ++ [(_, .inl (κ.2.1 1, n.toNatClampNeg, .inr (.inl (rn_z64 _ _ _))))]) _
            unfold rn_z64
            rw [if_pos rfl, ← e1]
            exact g1
          · cases h
            rw [szp] at hR2 kk
            dsimp only at hR2 kk
            refine va_newa hx hb (hts _ hf) rfl hK hP hD hS hA (a0 := (n.toNatClampNeg, .inl fun _ => 0)) (fun _ => rfl) hn0 rfl (by show _ * 1 ≤ _; omega) hR1 hR2 hdg (fun q cA H1 g0 g1 g2 g3 => ?_)
            refine rn_fresh κ hlen hs0 hcl g1 g2 (fun hq => ?_)
            subst hq
            have e1 : cA = κ.2.1 2 := same (fun _ => by simp) (g0.2 5 (cA, .byte) rfl).2 (hK.2 2 (κ.2.1 2, .byte) rfl).2
            refine kk H1 (rn_len_push _ _) (by rw [rn_len_push]; omega) (by rw [rn_sz_push]; omega) ?_ g3
            rw [rn_ws_push]
            show va_P _ _ (_ ++ [(_, .inl (κ.2.1 2, n.toNatClampNeg, .inl (rn_z32 _ _ _)))]) _
            unfold rn_z32
            rw [if_pos rfl, ← e1]
            exact g1
          · cases h
      · cases h
    · -- anewarray
      split at h
      · split at h
        · cases h
        · rename_i n T hn
          cases h
          have hn0 : ¬ n < 0 := fun z => hn (Or.inl z)
          have hn1 : n.toNatClampNeg ≤ 1000 := Nat.not_lt.mp fun z => hn (Or.inr (Or.inl z))
          have ha : a = 3 ∨ a = 4 := Classical.not_not.mp fun z => hn (Or.inr (Or.inr z))
          obtain ⟨w1, w2⟩ := hf
          rw [szp] at hR2 kk
          dsimp only at hR2 kk
          have same : ∀ {cA cB : ClassId} {C : String}, va_RA s cA (.object C) → va_RA s cB (.object C) → cA = cB := by
            intro cA cB C ha hb
            obtain ⟨_, _, _, _, _, h1⟩ := ha
            obtain ⟨_, _, _, _, _, h2⟩ := hb
            exact Option.some.inj (h1.symm.trans h2)
          have hz : rn_rc κ (List.replicate n.toNatClampNeg 0) = fun _ => none := by
            funext j
            unfold rn_rc
            rw [List.getElem?_replicate]
            split <;> rename_i e1
            · split at e1 <;> simp at e1
            · rfl
          refine va_newq hx hb hown (hts _ w1) (va_AO.of (hts _ w2)) hK hP hD hS hA hn0 rfl (by omega) hR1 hR2 hdg (fun q cA H1 g0 g1 g2 g3 => ?_)
          refine rn_fresh κ hlen hs0 hcl g1 g2 (fun hq => ?_)
          subst hq
          refine kk H1 (rn_len_push _ _) (by rw [rn_len_push]; omega) (by rw [rn_sz_push]; omega) ?_ g3
          rw [rn_ws_push]
          rcases ha with rfl | rfl
          · have e1 : cA = κ.2.1 3 := same (g0.2 5 (cA, .object (rn_rcn 3)) rfl).2 (hK.2 3 (κ.2.1 3, .object "LastTrick$Ways") rfl).2
            show va_P _ _ (_ ++ [(_, .inl (κ.2.1 3, n.toNatClampNeg, .inr (.inr (.inr (.inr (rn_rc κ _))))))]) _
            rw [hz, ← e1]
            exact g1
          · have e1 : cA = κ.2.1 4 := same (g0.2 5 (cA, .object (rn_rcn 4)) rfl).2 (hK.2 4 (κ.2.1 4, .object "LastTrick$Sheet") rfl).2
            show va_P _ _ (_ ++ [(_, .inl (κ.2.1 4, n.toNatClampNeg, .inr (.inr (.inr (.inr (rn_rc κ _))))))]) _
            rw [hz, ← e1]
            exact g1
      · cases h
    · cases h
  · cases h
end RNM
