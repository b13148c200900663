/-! THE ABSTRACT RUN IS THE MACHINE'S: instructions -/
section RNS
variable {p : Program} {l : Launch} {e : Env} {R : Room} {s : State} {m : MethodId} {args : Array Value} {below : List Frame} {meth : Method} {c : Code} {H : Heap} {locs : List Loc} {cells slots : Nat} {Q : State → Prop}
variable {cc : ByteArray} {pc : Nat} {ls : Array Slot}
theorem rn_ii_some {f : Int32 → Int32 → Int32} {L L2 : rn_L} {S S2 : List Value} (h : rn_ii f L S = some (L2, S2)) : ∃ x y T, S = .int y :: .int x :: T ∧ L2 = L ∧ S2 = .int (f x y) :: T := by
  unfold rn_ii at h
  split at h
  · cases h; exact ⟨_, _, _, rfl, rfl, rfl⟩
  · cases h
theorem rn_dd_some {f : Int32 → Int32 → Int32} {L L2 : rn_L} {S S2 : List Value} (h : rn_dd f L S = some (L2, S2)) : ∃ x y T, S = .int y :: .int x :: T ∧ ¬ y = 0 ∧ L2 = L ∧ S2 = .int (f x y) :: T := by
  unfold rn_dd at h
  split at h
  · split at h
    · cases h
    · cases h; exact ⟨_, _, _, rfl, by assumption, rfl, rfl⟩
  · cases h
theorem rn_jj_some {f : Int64 → Int64 → Int64} {L L2 : rn_L} {S S2 : List Value} (h : rn_jj f L S = some (L2, S2)) : ∃ x y T, S = .long y :: .long x :: T ∧ L2 = L ∧ S2 = .long (f x y) :: T := by
  unfold rn_jj at h
  split at h
  · cases h; exact ⟨_, _, _, rfl, rfl, rfl⟩
  · cases h
theorem rn_ji_some {f : Int64 → Int32 → Int64} {L L2 : rn_L} {S S2 : List Value} (h : rn_ji f L S = some (L2, S2)) : ∃ x y T, S = .int y :: .long x :: T ∧ L2 = L ∧ S2 = .long (f x y) :: T := by
  unfold rn_ji at h
  split at h
  · cases h; exact ⟨_, _, _, rfl, rfl, rfl⟩
  · cases h
theorem rn_i1_some {f : Int32 → Int32} {L L2 : rn_L} {S S2 : List Value} (h : rn_i1 f L S = some (L2, S2)) : ∃ x T, S = .int x :: T ∧ L2 = L ∧ S2 = .int (f x) :: T := by
  unfold rn_i1 at h
  split at h
  · cases h; exact ⟨_, _, rfl, rfl, rfl⟩
  · cases h
theorem rn_li_some {k : Nat} {L L2 : rn_L} {S S2 : List Value} (h : rn_li k L S = some (L2, S2)) : ∃ x, L[k]? = some (some (.int x)) ∧ L2 = L ∧ S2 = .int x :: S := by
  unfold rn_li at h
  split at h
  · cases h; exact ⟨_, by assumption, rfl, rfl⟩
  · cases h
theorem rn_ll_some {k : Nat} {L L2 : rn_L} {S S2 : List Value} (h : rn_ll k L S = some (L2, S2)) : ∃ x, L[k]? = some (some (.long x)) ∧ L2 = L ∧ S2 = .long x :: S := by
  unfold rn_ll at h
  split at h
  · cases h; exact ⟨_, by assumption, rfl, rfl⟩
  · cases h
theorem rn_la_some {k : Nat} {L L2 : rn_L} {S S2 : List Value} (h : rn_la k L S = some (L2, S2)) : ∃ x, L[k]? = some (some (.ref x)) ∧ L2 = L ∧ S2 = .ref x :: S := by
  unfold rn_la at h
  split at h
  · cases h; exact ⟨_, by assumption, rfl, rfl⟩
  · cases h
theorem rn_si_some {k : Nat} {L L2 : rn_L} {S S2 : List Value} (h : rn_si k L S = some (L2, S2)) : ∃ x T, S = .int x :: T ∧ k < L.length ∧ L2 = rn_s1 k (.int x) L ∧ S2 = T := by
  unfold rn_si at h
  split at h
  · split at h
    · cases h; exact ⟨_, _, rfl, by assumption, rfl, rfl⟩
    · cases h
  · cases h
theorem rn_sa_some {k : Nat} {L L2 : rn_L} {S S2 : List Value} (h : rn_sa k L S = some (L2, S2)) : ∃ x T, S = .ref x :: T ∧ k < L.length ∧ L2 = rn_s1 k (.ref x) L ∧ S2 = T := by
  unfold rn_sa at h
  split at h
  · split at h
    · cases h; exact ⟨_, _, rfl, by assumption, rfl, rfl⟩
    · cases h
  · cases h
theorem rn_sl_some {k : Nat} {L L2 : rn_L} {S S2 : List Value} (h : rn_sl k L S = some (L2, S2)) : ∃ x T, S = .long x :: T ∧ k + 1 < L.length ∧ L2 = rn_s2 k (.long x) L ∧ S2 = T := by
  unfold rn_sl at h
  split at h
  · split at h
    · cases h; exact ⟨_, _, rfl, by assumption, rfl, rfl⟩
    · cases h
  · cases h
def rn_cst (own : String) (a : Nat) (i : Instr) : Prop := match i with
  | .ldc j => Cond.constant own j (Int32.ofNat a) ∈ rn_tbl
  | .ldc_w j => Cond.constant own j (Int32.ofNat a) ∈ rn_tbl
  | .ldc2_w j => Cond.constantLong own j (Int64.ofNat a) ∈ rn_tbl
  | _ => True
set_option maxHeartbeats 4000000 in
theorem rn_pure_ok (κ : rn_K) {own : String} (hx : p.tables.exec = Jvm.exec) (hb : c.code = cc) (hown : s.vm.findClass own = some m.cls) (hts : ∀ w ∈ rn_tbl, w.before args s = true)
    {i : Instr} {len a nL : Nat} {L L2 : rn_L} {S S2 : List Value} (hdg : decode cc pc = .ok (i, rn_len i len)) (hc : rn_cst own a i)
    (hl : rn_lv κ nL L ls) (h : rn_pure a i L S = some (L2, S2))
    (kk : ∀ ls2, rn_lv κ nL L2 ls2 → W p l e R s m args below meth c H locs cells slots Q (F0 m (pc + rn_len i len) ls2 (S2.map (rn_cv κ)))) :
    W p l e R s m args below meth c H locs cells slots Q (F0 m pc ls (S.map (rn_cv κ))) := by
  unfold rn_pure at h
  split at h
  · cases h; exact lv_iconst hx hb hdg rfl (kk _ hl)
  · cases h; exact lv_bipush hx hb hdg rfl (kk _ hl)
  · cases h; exact lv_sipush hx hb hdg rfl (kk _ hl)
  · cases h; exact lv_lconst hx hb hdg rfl (kk _ hl)
  · cases h; exact lv_ldc hx hb hown (hts _ hc) hdg (kk _ hl)
  · cases h; exact lv_ldcw hx hb hown (hts _ hc) hdg (kk _ hl)
  · cases h; exact lv_ldc2 hx hb hown (hts _ hc) hdg (kk _ hl)
  · obtain ⟨x, h1, rfl, rfl⟩ := rn_li_some h; exact lv_iload hx hb hdg (hl.2.2.2 _ _ h1) (kk _ hl)
  · obtain ⟨x, h1, rfl, rfl⟩ := rn_li_some h; exact lv_iload_n hx hb hdg rfl (hl.2.2.2 _ _ h1) (kk _ hl)
  · obtain ⟨x, h1, rfl, rfl⟩ := rn_ll_some h; exact lv_lload hx hb hdg (hl.2.2.2 _ _ h1) (kk _ hl)
  · obtain ⟨x, h1, rfl, rfl⟩ := rn_ll_some h; exact lv_lload_n hx hb hdg rfl (hl.2.2.2 _ _ h1) (kk _ hl)
  · obtain ⟨x, h1, rfl, rfl⟩ := rn_la_some h; exact lv_aload hx hb hdg (hl.2.2.2 _ _ h1) (kk _ hl)
  · obtain ⟨x, h1, rfl, rfl⟩ := rn_la_some h; exact lv_aload_n hx hb hdg rfl (hl.2.2.2 _ _ h1) (kk _ hl)
  · obtain ⟨x, T, rfl, h1, rfl, rfl⟩ := rn_si_some h; exact lv_istore hx hb hdg hl.has (by rw [← hl.1]; exact h1) rfl (fun ls2 h2 => kk ls2 (rn_lv.st1 (v := .int x) hl.1 h2))
  · obtain ⟨x, T, rfl, h1, rfl, rfl⟩ := rn_si_some h; exact lv_istore_n hx hb hdg rfl hl.has (by rw [← hl.1]; exact h1) rfl (fun ls2 h2 => kk ls2 (rn_lv.st1 (v := .int x) hl.1 h2))
  · obtain ⟨x, T, rfl, h1, rfl, rfl⟩ := rn_sl_some h; exact lv_lstore hx hb hdg hl.has (by rw [← hl.1]; exact h1) rfl (fun ls2 h2 => kk ls2 (rn_lv.st2 (v := .long x) hl.1 h2))
  · obtain ⟨x, T, rfl, h1, rfl, rfl⟩ := rn_sl_some h; exact lv_lstore_n hx hb hdg rfl hl.has (by rw [← hl.1]; exact h1) rfl (fun ls2 h2 => kk ls2 (rn_lv.st2 (v := .long x) hl.1 h2))
  · obtain ⟨x, T, rfl, h1, rfl, rfl⟩ := rn_sa_some h; exact lv_astore hx hb hdg hl.has (by rw [← hl.1]; exact h1) rfl (fun ls2 h2 => kk ls2 (rn_lv.st1 (v := .ref x) hl.1 h2))
  · obtain ⟨x, T, rfl, h1, rfl, rfl⟩ := rn_sa_some h; exact lv_astore_n hx hb hdg rfl hl.has (by rw [← hl.1]; exact h1) rfl (fun ls2 h2 => kk ls2 (rn_lv.st1 (v := .ref x) hl.1 h2))
  · split at h
    · rename_i x h1
      cases h
      obtain ⟨k, hk⟩ := List.getElem?_of_mem (rn_asc_mem.mpr ⟨_, h1, rfl⟩ : (_, rn_cv κ (.int x)) ∈ rn_asc κ L)
      exact lv_iinc hx hb hdg hl.has hk rfl (by rw [← hl.1]; exact (List.getElem?_eq_some_iff.mp h1).1) rfl (fun ls2 h2 => kk ls2 (rn_lv.st1 (v := .int _) hl.1 h2))
    · cases h
  · obtain ⟨x, y, T, rfl, rfl, rfl⟩ := rn_ii_some h; exact lv_iadd hx hb hdg (kk _ hl)
  · obtain ⟨x, y, T, rfl, rfl, rfl⟩ := rn_ii_some h; exact lv_isub hx hb hdg (kk _ hl)
  · obtain ⟨x, y, T, rfl, rfl, rfl⟩ := rn_ii_some h; exact lv_imul hx hb hdg (kk _ hl)
  · obtain ⟨x, y, T, rfl, rfl, rfl⟩ := rn_ii_some h; exact lv_iand hx hb hdg (kk _ hl)
  · obtain ⟨x, y, T, rfl, rfl, rfl⟩ := rn_ii_some h; exact lv_ior hx hb hdg (kk _ hl)
  · obtain ⟨x, y, T, rfl, rfl, rfl⟩ := rn_ii_some h; exact lv_ixor hx hb hdg (kk _ hl)
  · obtain ⟨x, y, T, rfl, h1, rfl, rfl⟩ := rn_dd_some h; exact lv_idiv hx hb hdg h1 (kk _ hl)
  · obtain ⟨x, y, T, rfl, h1, rfl, rfl⟩ := rn_dd_some h; exact lv_irem hx hb hdg h1 (kk _ hl)
  · obtain ⟨x, y, T, rfl, rfl, rfl⟩ := rn_ii_some h; exact lv_ishl hx hb hdg (kk _ hl)
  · obtain ⟨x, y, T, rfl, rfl, rfl⟩ := rn_ii_some h; exact lv_ishr hx hb hdg (kk _ hl)
  · obtain ⟨x, y, T, rfl, rfl, rfl⟩ := rn_ii_some h; exact lv_iushr hx hb hdg rfl (kk _ hl)
  · obtain ⟨x, y, T, rfl, rfl, rfl⟩ := rn_jj_some h; exact lv_ladd hx hb hdg (kk _ hl)
  · obtain ⟨x, y, T, rfl, rfl, rfl⟩ := rn_jj_some h; exact lv_lmul hx hb hdg (kk _ hl)
  · obtain ⟨x, y, T, rfl, rfl, rfl⟩ := rn_jj_some h; exact lv_land hx hb hdg (kk _ hl)
  · obtain ⟨x, y, T, rfl, rfl, rfl⟩ := rn_jj_some h; exact lv_lor hx hb hdg (kk _ hl)
  · obtain ⟨x, y, T, rfl, rfl, rfl⟩ := rn_ji_some h; exact lv_lshl hx hb hdg rfl (kk _ hl)
  · obtain ⟨x, y, T, rfl, rfl, rfl⟩ := rn_ji_some h; exact lv_lshr hx hb hdg rfl (kk _ hl)
  · split at h
    · cases h; exact lv_i2l hx hb hdg rfl (kk _ hl)
    · cases h
  · split at h
    · cases h; exact lv_l2i hx hb hdg rfl (kk _ hl)
    · cases h
  · obtain ⟨x, T, rfl, rfl, rfl⟩ := rn_i1_some h; exact lv_i2b hx hb hdg rfl (kk _ hl)
  · obtain ⟨x, T, rfl, rfl, rfl⟩ := rn_i1_some h; exact lv_i2s hx hb hdg rfl (kk _ hl)
  · split at h
    · cases h; exact W.lcmp hx hb hdg (kk _ hl)
    · cases h
  · split at h
    · cases h; exact lv_dup hx hb hdg rfl (kk _ hl)
    · cases h; exact lv_dup hx hb hdg rfl (kk _ hl)
    · cases h
  · split at h
    · cases h; exact lv_dup2_11 hx hb hdg rfl rfl (kk _ hl)
    · cases h; exact lv_dup2_2 hx hb hdg rfl (kk _ hl)
    · cases h
  · cases h
theorem rn_tg_ok {pc : Nat} {off : Int} (h : 0 ≤ (pc : Int) + off) : (pc : Int) + off = (rn_tg pc off : Int) := by
  unfold rn_tg
  rw [Int.toNat_of_nonneg h]
set_option maxHeartbeats 4000000 in
theorem rn_br_ok (κ : rn_K) (hx : p.tables.exec = Jvm.exec) (hb : c.code = cc)
    {i : Instr} {len pc2 : Nat} {S S2 : List Value} (hdg : decode cc pc = .ok (i, rn_len i len)) (h : rn_br i pc S = some (pc2, S2))
    (kk : W p l e R s m args below meth c H locs cells slots Q (F0 m pc2 ls (S2.map (rn_cv κ)))) :
    W p l e R s m args below meth c H locs cells slots Q (F0 m pc ls (S.map (rn_cv κ))) := by
  unfold rn_br at h
  split at h
  · rename_i cd off
    split at h
    · split at h
      · rename_i x T hp
        cases h
        have ht := rn_tg_ok hp
        have go : ∀ (P : Prop) [Decidable P], rn_cmp cd x 0 = decide P → (P → W p l e R s m args below meth c H locs cells slots Q (F0 m (rn_tg pc off) ls (S2.map (rn_cv κ)))) ∧ (¬ P → W p l e R s m args below meth c H locs cells slots Q (F0 m (pc + 3) ls (S2.map (rn_cv κ)))) := by
          intro P _ e
          rw [e] at kk
          constructor
          · intro q
            rw [if_pos (decide_eq_true q)] at kk
            exact kk
          · intro q
            rw [if_neg (by rw [decide_eq_true_eq]; exact q)] at kk
            exact kk
        cases cd with
        | eq => exact lv_if_eq hx hb hdg ht (go _ rfl).1 (go _ rfl).2
        | ne => exact lv_if_ne hx hb hdg ht (go _ rfl).1 (fun z => (go _ rfl).2 (fun w => w z))
        | lt => exact lv_if_lt hx hb hdg ht (go _ rfl).1 (go _ rfl).2
        | ge => exact lv_if_ge hx hb hdg ht (go _ rfl).1 (go _ rfl).2
        | gt => exact lv_if_gt hx hb hdg ht (go _ rfl).1 (go _ rfl).2
        | le => exact lv_if_le hx hb hdg ht (go _ rfl).1 (go _ rfl).2
      · cases h
    · cases h
  · rename_i cd off
    split at h
    · split at h
      · rename_i y x T hp
        cases h
        have ht := rn_tg_ok hp
        have go : ∀ (P : Prop) [Decidable P], rn_cmp cd x y = decide P → (P → W p l e R s m args below meth c H locs cells slots Q (F0 m (rn_tg pc off) ls (S2.map (rn_cv κ)))) ∧ (¬ P → W p l e R s m args below meth c H locs cells slots Q (F0 m (pc + 3) ls (S2.map (rn_cv κ)))) := by
          intro P _ e
          rw [e] at kk
          constructor
          · intro q
            rw [if_pos (decide_eq_true q)] at kk
            exact kk
          · intro q
            rw [if_neg (by rw [decide_eq_true_eq]; exact q)] at kk
            exact kk
        cases cd with
        | eq => exact lv_icmp_eq hx hb hdg ht (go _ rfl).1 (go _ rfl).2
        | ne => exact lv_icmp_ne hx hb hdg ht (go _ rfl).1 (fun z => (go _ rfl).2 (fun w => w z))
        | lt => exact lv_icmp_lt hx hb hdg ht (go _ rfl).1 (go _ rfl).2
        | ge => exact lv_icmp_ge hx hb hdg ht (go _ rfl).1 (go _ rfl).2
        | gt => exact lv_icmp_gt hx hb hdg ht (go _ rfl).1 (go _ rfl).2
        | le => exact lv_icmp_le hx hb hdg ht (go _ rfl).1 (go _ rfl).2
      · cases h
    · cases h
  · split at h
    · rename_i hp
      cases h
      exact lv_goto hx hb hdg (rn_tg_ok hp) kk
    · cases h
  · split at h
    · split at h
      · split at h
        · rename_i o hp
          cases h
          exact lv_tableOut hx hb hdg o (rn_tg_ok hp) kk
        · cases h
      · split at h
        · split at h
          · rename_i o _ off ho hp
            cases h
            exact lv_tableIn hx hb hdg (fun z => o (Or.inl z)) (fun z => o (Or.inr z)) ho (rn_tg_ok hp) kk
          · cases h
        · cases h
    · cases h
  · split at h
    · split at h
      · split at h
        · rename_i hs hp
          cases h
          exact lv_lookup hx hb hdg hs rfl (rn_tg_ok hp) kk
        · cases h
      · cases h
    · cases h
  · cases h
end RNS
