/-! RUNS, goal first: a row an instruction -/
theorem rn_fuel {xs : List Int32} : ∀ (n d y pc : Nat) (L : rn_L) (S : List Value) (σ : rn_H) (q : Option Value × rn_H), rn_run xs d n y pc L S σ = some q → rn_run xs d (n + 1) y pc L S σ = some q
  | 0, d, y, pc, L, S, σ, q, h => by unfold rn_run at h; cases h
  | n + 1, d, y, pc, L, S, σ, q, h => by
    unfold rn_run at h ⊢
    cases hop : rn_op y pc with
    | none => rw [hop] at h; cases h
    | some w =>
      obtain ⟨i, len, a, b, c⟩ := w
      rw [hop] at h
      dsimp only at h ⊢
      cases h1 : rn_pure a i L S with
      | some w => rw [h1] at h; exact rn_fuel n _ _ _ _ _ _ _ h
      | none =>
        rw [h1] at h
        dsimp only at h ⊢
        cases h2 : rn_rd xs a b i S σ with
        | some w => rw [h2] at h; exact rn_fuel n _ _ _ _ _ _ _ h
        | none =>
          rw [h2] at h
          dsimp only at h ⊢
          cases h3 : rn_br i pc S with
          | some w => rw [h3] at h; exact rn_fuel n _ _ _ _ _ _ _ h
          | none =>
            rw [h3] at h
            dsimp only at h ⊢
            cases h4 : rn_wr a b c i S σ with
            | some w => rw [h4] at h; exact rn_fuel n _ _ _ _ _ _ _ h
            | none =>
              rw [h4] at h
              dsimp only at h ⊢
              cases h5 : rn_nw a i S σ with
              | some w => rw [h5] at h; exact rn_fuel n _ _ _ _ _ _ _ h
              | none =>
                rw [h5] at h
                dsimp only at h ⊢
                cases h6 : rn_cal i a b with
                | some w =>
                  obtain ⟨y2, k⟩ := w
                  rw [h6] at h
                  dsimp only at h ⊢
                  cases d with
                  | zero => cases h
                  | succ d2 =>
                    cases h7 : rn_ms[y2]? with
                    | none => rw [h7] at h; cases h
                    | some M2 =>
                      rw [h7] at h
                      dsimp only at h ⊢
                      split at h
                      · rename_i hc
                        rw [if_pos hc]
                        cases h8 : rn_run xs d2 n y2 0 (rn_ent M2.2.2.1 (S.take k).reverse) [] σ with
                        | none => rw [h8] at h; cases h
                        | some w =>
                          rw [h8] at h
                          rw [rn_fuel n _ _ _ _ _ _ _ h8]
                          exact rn_fuel n _ _ _ _ _ _ _ h
                      · cases h
                | none =>
                  rw [h6] at h
                  exact h
theorem rn_fuel_le {xs : List Int32} {n k d y pc : Nat} {L : rn_L} {S : List Value} {σ : rn_H} {q : Option Value × rn_H} (h : rn_run xs d n y pc L S σ = some q) (hk : n ≤ k) : rn_run xs d k y pc L S σ = some q := by
  obtain ⟨j, rfl⟩ : ∃ j, k = n + j := ⟨k - n, by omega⟩
  induction j with
  | zero => exact h
  | succ j ih => exact rn_fuel _ _ _ _ _ _ _ _ (ih (by omega))
def rn_R (xs : List Int32) (d y pc : Nat) (L : rn_L) (S : List Value) (σ : rn_H) (r : Option Value) (τ : rn_H) : Prop := ∃ n, rn_run xs d n y pc L S σ = some (r, τ)
def rm_i (m : rn_Mem) (p i : Nat) (x : Int32) : rn_Mem := (rn_up m.1 p i x, m.2)
def rm_j (m : rn_Mem) (p i : Nat) (x : Int64) : rn_Mem := (m.1, rn_uq m.2 p i x)
def rm_c (m : rn_Mem) (p q sp dp n : Nat) : rn_Mem := (rn_row m.1 q (va_cpy (m.1 p) (m.1 q) sp dp n), m.2)
section RX
variable {xs : List Int32} {d y pc pc2 len a b c : Nat} {L L2 : rn_L} {S S2 T : List Value} {SH : List rn_Sh} {m m2 : rn_Mem} {r : Option Value} {τ : rn_H}
theorem rx_p {σ : rn_H} {i : Instr} (hop : rn_op y pc = some (i, len, a, b, c)) (h : rn_pure a i L S = some (L2, S2)) (hpc : pc + rn_len i len = pc2) (k : rn_R xs d y pc2 L2 S2 σ r τ) : rn_R xs d y pc L S σ r τ := by
  obtain ⟨n, hn⟩ := k
  refine ⟨n + 1, ?_⟩
  unfold rn_run
  rw [hop]; dsimp only
  rw [h]; dsimp only
  rw [hpc]; exact hn
theorem rx_r {σ : rn_H} {i : Instr} (hop : rn_op y pc = some (i, len, a, b, c)) (h0 : rn_pure a i L S = none) (h : rn_rd xs a b i S σ = some S2) (hpc : pc + rn_len i len = pc2) (k : rn_R xs d y pc2 L S2 σ r τ) : rn_R xs d y pc L S σ r τ := by
  obtain ⟨n, hn⟩ := k
  refine ⟨n + 1, ?_⟩
  unfold rn_run
  rw [hop]; dsimp only
  rw [h0]; dsimp only
  rw [h]; dsimp only
  rw [hpc]; exact hn
theorem rx_b {σ : rn_H} {i : Instr} (hop : rn_op y pc = some (i, len, a, b, c)) (h0 : rn_pure a i L S = none) (h1 : rn_rd xs a b i S σ = none) (h : rn_br i pc S = some (pc2, S2)) (k : rn_R xs d y pc2 L S2 σ r τ) : rn_R xs d y pc L S σ r τ := by
  obtain ⟨n, hn⟩ := k
  refine ⟨n + 1, ?_⟩
  unfold rn_run
  rw [hop]; dsimp only
  rw [h0]; dsimp only
  rw [h1]; dsimp only
  rw [h]; exact hn
theorem rx_w {σ σ2 : rn_H} {i : Instr} (hop : rn_op y pc = some (i, len, a, b, c)) (h0 : rn_pure a i L S = none) (h1 : rn_rd xs a b i S σ = none) (h2 : rn_br i pc S = none) (h : rn_wr a b c i S σ = some (S2, σ2)) (hpc : pc + rn_len i len = pc2) (k : rn_R xs d y pc2 L S2 σ2 r τ) : rn_R xs d y pc L S σ r τ := by
  obtain ⟨n, hn⟩ := k
  refine ⟨n + 1, ?_⟩
  unfold rn_run
  rw [hop]; dsimp only
  rw [h0]; dsimp only
  rw [h1]; dsimp only
  rw [h2]; dsimp only
  rw [h]; dsimp only
  rw [hpc]; exact hn
/-- a store; the value gets a name -/
theorem rx_s {σ : rn_H} {i : Instr} {x v : Int32} (hop : rn_op y pc = some (i, len, a, b, c)) (hv : x = v) (h : rn_pure a i L (.int v :: T) = some (L2, T)) (hpc : pc + rn_len i len = pc2) (k : rn_R xs d y pc2 L2 T σ r τ) : rn_R xs d y pc L (.int x :: T) σ r τ := by
  subst hv
  exact rx_p hop h hpc k
theorem rx_sl {σ : rn_H} {i : Instr} {x v : Int64} (hop : rn_op y pc = some (i, len, a, b, c)) (hv : x = v) (h : rn_pure a i L (.long v :: T) = some (L2, T)) (hpc : pc + rn_len i len = pc2) (k : rn_R xs d y pc2 L2 T σ r τ) : rn_R xs d y pc L (.long x :: T) σ r τ := by
  subst hv
  exact rx_p hop h hpc k
theorem rx_inc {σ : rn_H} {j : Nat} {z : Int} {x w v : Int32} (hop : rn_op y pc = some (.iinc j z, len, a, b, c)) (hL : L[j]? = some (some (Value.int x))) (hw : Int32.ofInt z = w) (hv : x + w = v) (h : rn_s1 j (.int v) L = L2) (hpc : pc + 3 = pc2) (k : rn_R xs d y pc2 L2 S σ r τ) : rn_R xs d y pc L S σ r τ := by
  subst hv; subst hw; subst h
  refine rx_p hop (L2 := rn_s1 j (.int (x + Int32.ofInt z)) L) (S2 := S) ?_ hpc k
  show (match L[j]? with
    | some (some (Value.int x)) => some (rn_s1 j (.int (x + Int32.ofInt z)) L, S)
    | _ => none) = _
  rw [hL]
theorem rx_ic {σ : rn_H} {z : Int} {v : Int32} (hop : rn_op y pc = some (.iconst z, len, a, b, c)) (hv : Int32.ofInt z = v) (hpc : pc + 1 = pc2) (k : rn_R xs d y pc2 L (.int v :: S) σ r τ) : rn_R xs d y pc L S σ r τ := by
  subst hv; exact rx_p hop rfl hpc k
theorem rx_bp {σ : rn_H} {z : Int} {v : Int32} (hop : rn_op y pc = some (.bipush z, len, a, b, c)) (hv : (Int8.ofInt z).toInt32 = v) (hpc : pc + 2 = pc2) (k : rn_R xs d y pc2 L (.int v :: S) σ r τ) : rn_R xs d y pc L S σ r τ := by
  subst hv; exact rx_p hop rfl hpc k
theorem rx_sp {σ : rn_H} {z : Int} {v : Int32} (hop : rn_op y pc = some (.sipush z, len, a, b, c)) (hv : (Int16.ofInt z).toInt32 = v) (hpc : pc + 3 = pc2) (k : rn_R xs d y pc2 L (.int v :: S) σ r τ) : rn_R xs d y pc L S σ r τ := by
  subst hv; exact rx_p hop rfl hpc k
theorem rx_lc {σ : rn_H} {z : Fin 2} {v : Int64} (hop : rn_op y pc = some (.lconst z, len, a, b, c)) (hv : Int64.ofNat (z : Nat) = v) (hpc : pc + 1 = pc2) (k : rn_R xs d y pc2 L (.long v :: S) σ r τ) : rn_R xs d y pc L S σ r τ := by
  subst hv; exact rx_p hop rfl hpc k
theorem rx_ld {σ : rn_H} {z : Nat} {v : Int32} (hop : rn_op y pc = some (.ldc z, len, a, b, c)) (hv : Int32.ofNat a = v) (hpc : pc + 2 = pc2) (k : rn_R xs d y pc2 L (.int v :: S) σ r τ) : rn_R xs d y pc L S σ r τ := by
  subst hv; exact rx_p hop rfl hpc k
theorem rx_ldw {σ : rn_H} {z : Nat} {v : Int32} (hop : rn_op y pc = some (.ldc_w z, len, a, b, c)) (hv : Int32.ofNat a = v) (hpc : pc + 3 = pc2) (k : rn_R xs d y pc2 L (.int v :: S) σ r τ) : rn_R xs d y pc L S σ r τ := by
  subst hv; exact rx_p hop rfl hpc k
theorem rx_ld2 {σ : rn_H} {z : Nat} {v : Int64} (hop : rn_op y pc = some (.ldc2_w z, len, a, b, c)) (hv : Int64.ofNat a = v) (hpc : pc + 3 = pc2) (k : rn_R xs d y pc2 L (.long v :: S) σ r τ) : rn_R xs d y pc L S σ r τ := by
  subst hv; exact rx_p hop rfl hpc k
theorem rx_div {σ : rn_H} {x z v : Int32} (hop : rn_op y pc = some (.idiv, len, a, b, c)) (hz : ¬ z = 0) (hv : x / z = v) (hpc : pc + 1 = pc2) (k : rn_R xs d y pc2 L (.int v :: T) σ r τ) : rn_R xs d y pc L (.int z :: .int x :: T) σ r τ := by
  subst hv
  exact rx_p hop (by show (if z = 0 then none else _) = _; rw [if_neg hz]) hpc k
theorem rx_rem {σ : rn_H} {x z v : Int32} (hop : rn_op y pc = some (.irem, len, a, b, c)) (hz : ¬ z = 0) (hv : x - x / z * z = v) (hpc : pc + 1 = pc2) (k : rn_R xs d y pc2 L (.int v :: T) σ r τ) : rn_R xs d y pc L (.int z :: .int x :: T) σ r τ := by
  subst hv
  exact rx_p hop (by show (if z = 0 then none else _) = _; rw [if_neg hz]) hpc k
/-! the heap -/
theorem rx_gf {ix p n code : Nat} {fs : List Nat} {v : Value} (hop : rn_op y pc = some (.getfield ix, len, a, b, c)) (hsh : SH[p]? = some (a + 5, n, fs)) (hc : fs[b]? = some code) (hv : rn_fv m p b code = v) (hpc : pc + 3 = pc2) (k : rn_R xs d y pc2 L (v :: T) (SH, m) r τ) : rn_R xs d y pc L (.ref p :: T) (SH, m) r τ := by
  subst hv
  refine rx_r hop rfl (S2 := rn_fv m p b code :: T) ?_ hpc k
  show (match SH[p]? with
    | some (t, _, fs) => if t = a + 5 then match fs[b]? with
      | some code => some (rn_fv m p b code :: T)
      | none => none
      else none
    | none => none) = _
  rw [hsh]; dsimp only; rw [if_pos rfl, hc]
theorem rx_gs {σ : rn_H} {ix : Nat} (hop : rn_op y pc = some (.getstatic ix, len, a, b, c)) (hpc : pc + 3 = pc2) (k : rn_R xs d y pc2 L (.ref (10000 + a) :: S) σ r τ) : rn_R xs d y pc L S σ r τ := rx_r hop rfl rfl hpc k
theorem rx_ia {i : Int32} {p n j : Nat} {fs : List Nat} (hop : rn_op y pc = some (.iaload, len, a, b, c)) (hp : p < 9000) (hsh : SH[p]? = some (0, n, fs)) (hi : rn_in i n = true) (hj : i.toNatClampNeg = j) (hpc : pc + 1 = pc2) (k : rn_R xs d y pc2 L (.int (m.1 p j) :: T) (SH, m) r τ) : rn_R xs d y pc L (.int i :: .ref p :: T) (SH, m) r τ := by
  subst hj
  refine rx_r hop rfl (S2 := .int (m.1 p i.toNatClampNeg) :: T) ?_ hpc k
  show (if p < 10000 then match SH[p]? with
      | some (t, n, _) => if t = 0 then (if rn_in i n = true then some (Value.int (m.1 p i.toNatClampNeg) :: T) else none) else none
      | none => none
      else _) = _
  rw [if_pos (by omega), hsh]; dsimp only; rw [if_pos rfl, if_pos hi]
theorem rx_ix {σ : rn_H} {i : Int32} {p : Nat} (hop : rn_op y pc = some (.iaload, len, a, b, c)) (hp : ¬ p < 10000) (hi : rn_in i (rn_ext xs p).length = true) (hpc : pc + 1 = pc2) (k : rn_R xs d y pc2 L (.int ((rn_ext xs p).getD i.toNatClampNeg 0) :: T) σ r τ) : rn_R xs d y pc L (.int i :: .ref p :: T) σ r τ := by
  refine rx_r hop rfl (S2 := .int ((rn_ext xs p).getD i.toNatClampNeg 0) :: T) ?_ hpc k
  show (if p < 10000 then _ else if rn_in i (rn_ext xs p).length = true then some (Value.int ((rn_ext xs p).getD i.toNatClampNeg 0) :: T) else none) = _
  rw [if_neg hp, if_pos hi]
theorem rx_ba {i : Int32} {p n j : Nat} {fs : List Nat} (hop : rn_op y pc = some (.baload, len, a, b, c)) (hsh : SH[p]? = some (2, n, fs)) (hi : rn_in i n = true) (hj : i.toNatClampNeg = j) (hpc : pc + 1 = pc2) (k : rn_R xs d y pc2 L (.int (m.1 p j) :: T) (SH, m) r τ) : rn_R xs d y pc L (.int i :: .ref p :: T) (SH, m) r τ := by
  subst hj
  refine rx_r hop rfl (S2 := .int (m.1 p i.toNatClampNeg) :: T) ?_ hpc k
  show (match SH[p]? with
      | some (t, n, _) => if t = 2 then (if rn_in i n = true then some (Value.int (m.1 p i.toNatClampNeg) :: T) else none) else none
      | none => none) = _
  rw [hsh]; dsimp only; rw [if_pos rfl, if_pos hi]
theorem rx_la {i : Int32} {p n j : Nat} {fs : List Nat} (hop : rn_op y pc = some (.laload, len, a, b, c)) (hsh : SH[p]? = some (1, n, fs)) (hi : rn_in i n = true) (hj : i.toNatClampNeg = j) (hpc : pc + 1 = pc2) (k : rn_R xs d y pc2 L (.long (m.2 p j) :: T) (SH, m) r τ) : rn_R xs d y pc L (.int i :: .ref p :: T) (SH, m) r τ := by
  subst hj
  refine rx_r hop rfl (S2 := .long (m.2 p i.toNatClampNeg) :: T) ?_ hpc k
  show (match SH[p]? with
      | some (t, n, _) => if t = 1 then (if rn_in i n = true then some (Value.long (m.2 p i.toNatClampNeg) :: T) else none) else none
      | none => none) = _
  rw [hsh]; dsimp only; rw [if_pos rfl, if_pos hi]
theorem rx_aa {i : Int32} {p n t q : Nat} {fs : List Nat} (hop : rn_op y pc = some (.aaload, len, a, b, c)) (hsh : SH[p]? = some (t, n, fs)) (ht : t = 3 ∨ t = 4) (hi : rn_in i n = true) (hq : fs[i.toNatClampNeg]? = some (q + 1)) (hpc : pc + 1 = pc2) (k : rn_R xs d y pc2 L (.ref q :: T) (SH, m) r τ) : rn_R xs d y pc L (.int i :: .ref p :: T) (SH, m) r τ := by
  refine rx_r hop rfl (S2 := .ref q :: T) ?_ hpc k
  show (match SH[p]? with
      | some (t, n, fs) => if t = 3 ∨ t = 4 then (if rn_in i n = true then match fs[i.toNatClampNeg]? with
        | some (q + 1) => some (Value.ref q :: T)
        | _ => none
        else none) else none
      | none => none) = _
  rw [hsh]; dsimp only; rw [if_pos ht, if_pos hi, hq]
theorem rx_aln {p n t : Nat} {v : Int32} {fs : List Nat} (hop : rn_op y pc = some (.arraylength, len, a, b, c)) (hp : p < 9000) (hsh : SH[p]? = some (t, n, fs)) (ht : t < 5) (hv : Int32.ofNat n = v) (hpc : pc + 1 = pc2) (k : rn_R xs d y pc2 L (.int v :: T) (SH, m) r τ) : rn_R xs d y pc L (.ref p :: T) (SH, m) r τ := by
  subst hv
  refine rx_r hop rfl (S2 := .int (Int32.ofNat n) :: T) ?_ hpc k
  show (if p < 10000 then match SH[p]? with
      | some (t, n, _) => if t < 5 then some (Value.int (Int32.ofNat n) :: T) else none
      | none => none
      else _) = _
  rw [if_pos (by omega), hsh]; dsimp only; rw [if_pos ht]
theorem rx_alx {σ : rn_H} (hop : rn_op y pc = some (.arraylength, len, a, b, c)) (hpc : pc + 1 = pc2) (k : rn_R xs d y pc2 L (.int (Int32.ofNat xs.length) :: T) σ r τ) : rn_R xs d y pc L (.ref 10002 :: T) σ r τ := rx_r hop rfl rfl hpc k
theorem rx_pf {ix p n : Nat} {x : Int32} {fs : List Nat} (hop : rn_op y pc = some (.putfield ix, len, a, b, 0)) (hsh : SH[p]? = some (a + 5, n, fs)) (hc : fs[b]? = some 0) (hm : rm_i m p b x = m2) (hpc : pc + 3 = pc2) (k : rn_R xs d y pc2 L T (SH, m2) r τ) : rn_R xs d y pc L (.int x :: .ref p :: T) (SH, m) r τ := by
  subst hm
  refine rx_w hop rfl rfl rfl (S2 := T) (σ2 := (SH, rm_i m p b x)) ?_ hpc k
  show (match SH[p]? with
      | some (t, n, fs) => if t = a + 5 then match fs[b]?, Value.int x with
        | some 0, .int x => if 0 = 0 then some (T, SH, rn_up m.1 p b x, m.2) else none
        | some 1, .long x => if 0 = 1 then some (T, SH, m.1, rn_uq m.2 p b x) else none
        | some 2, .int x => if 0 = 2 ∧ (x = 0 ∨ x = 1) then some (T, SH, rn_up m.1 p b x, m.2) else none
        | some (_ + 3), .ref q => if 0 = 3 then some (T, SH.set p (t, n, fs.set b (q + 4)), m) else none
        | _, _ => none
        else none
      | none => none) = _
  rw [hsh]; dsimp only; rw [if_pos rfl, hc]; rfl
theorem rx_pj {ix p n : Nat} {x : Int64} {fs : List Nat} (hop : rn_op y pc = some (.putfield ix, len, a, b, 1)) (hsh : SH[p]? = some (a + 5, n, fs)) (hc : fs[b]? = some 1) (hm : rm_j m p b x = m2) (hpc : pc + 3 = pc2) (k : rn_R xs d y pc2 L T (SH, m2) r τ) : rn_R xs d y pc L (.long x :: .ref p :: T) (SH, m) r τ := by
  subst hm
  refine rx_w hop rfl rfl rfl (S2 := T) (σ2 := (SH, rm_j m p b x)) ?_ hpc k
  show (match SH[p]? with
      | some (t, n, fs) => if t = a + 5 then match fs[b]?, Value.long x with
        | some 0, .int x => if 1 = 0 then some (T, SH, rn_up m.1 p b x, m.2) else none
        | some 1, .long x => if 1 = 1 then some (T, SH, m.1, rn_uq m.2 p b x) else none
        | some 2, .int x => if 1 = 2 ∧ (x = 0 ∨ x = 1) then some (T, SH, rn_up m.1 p b x, m.2) else none
        | some (_ + 3), .ref q => if 1 = 3 then some (T, SH.set p (t, n, fs.set b (q + 4)), m) else none
        | _, _ => none
        else none
      | none => none) = _
  rw [hsh]; dsimp only; rw [if_pos rfl, hc]; rfl
theorem rx_pz {ix p n : Nat} {x : Int32} {fs : List Nat} (hop : rn_op y pc = some (.putfield ix, len, a, b, 2)) (hsh : SH[p]? = some (a + 5, n, fs)) (hc : fs[b]? = some 2) (hx : x = 0 ∨ x = 1) (hm : rm_i m p b x = m2) (hpc : pc + 3 = pc2) (k : rn_R xs d y pc2 L T (SH, m2) r τ) : rn_R xs d y pc L (.int x :: .ref p :: T) (SH, m) r τ := by
  subst hm
  refine rx_w hop rfl rfl rfl (S2 := T) (σ2 := (SH, rm_i m p b x)) ?_ hpc k
  show (match SH[p]? with
      | some (t, n, fs) => if t = a + 5 then match fs[b]?, Value.int x with
        | some 0, .int x => if 2 = 0 then some (T, SH, rn_up m.1 p b x, m.2) else none
        | some 1, .long x => if 2 = 1 then some (T, SH, m.1, rn_uq m.2 p b x) else none
        | some 2, .int x => if 2 = 2 ∧ (x = 0 ∨ x = 1) then some (T, SH, rn_up m.1 p b x, m.2) else none
        | some (_ + 3), .ref q => if 2 = 3 then some (T, SH.set p (t, n, fs.set b (q + 4)), m) else none
        | _, _ => none
        else none
      | none => none) = _
  rw [hsh]; dsimp only; rw [if_pos rfl, hc]; dsimp only; rw [if_pos ⟨rfl, hx⟩]; rfl
theorem rx_is {i x : Int32} {p n j : Nat} {fs : List Nat} (hop : rn_op y pc = some (.iastore, len, a, b, c)) (hsh : SH[p]? = some (0, n, fs)) (hi : rn_in i n = true) (hj : i.toNatClampNeg = j) (hm : rm_i m p j x = m2) (hpc : pc + 1 = pc2) (k : rn_R xs d y pc2 L T (SH, m2) r τ) : rn_R xs d y pc L (.int x :: .int i :: .ref p :: T) (SH, m) r τ := by
  subst hj; subst hm
  refine rx_w hop rfl rfl rfl (S2 := T) (σ2 := (SH, rm_i m p i.toNatClampNeg x)) ?_ hpc k
  show (match SH[p]? with
      | some (t, n, _) => if t = 0 then (if rn_in i n = true then some (T, SH, rn_up m.1 p i.toNatClampNeg x, m.2) else none) else none
      | none => none) = _
  rw [hsh]; dsimp only; rw [if_pos rfl, if_pos hi]; rfl
theorem rx_bs {i x : Int32} {p n j : Nat} {fs : List Nat} (hop : rn_op y pc = some (.bastore, len, a, b, c)) (hsh : SH[p]? = some (2, n, fs)) (hi : rn_in i n = true) (hj : i.toNatClampNeg = j) (hm : rm_i m p j (vp_nar .byte x) = m2) (hpc : pc + 1 = pc2) (k : rn_R xs d y pc2 L T (SH, m2) r τ) : rn_R xs d y pc L (.int x :: .int i :: .ref p :: T) (SH, m) r τ := by
  subst hj; subst hm
  refine rx_w hop rfl rfl rfl (S2 := T) (σ2 := (SH, rm_i m p i.toNatClampNeg (vp_nar .byte x))) ?_ hpc k
  show (match SH[p]? with
      | some (t, n, _) => if t = 2 then (if rn_in i n = true then some (T, SH, rn_up m.1 p i.toNatClampNeg (vp_nar .byte x), m.2) else none) else none
      | none => none) = _
  rw [hsh]; dsimp only; rw [if_pos rfl, if_pos hi]; rfl
theorem rx_ls {i : Int32} {x : Int64} {p n j : Nat} {fs : List Nat} (hop : rn_op y pc = some (.lastore, len, a, b, c)) (hsh : SH[p]? = some (1, n, fs)) (hi : rn_in i n = true) (hj : i.toNatClampNeg = j) (hm : rm_j m p j x = m2) (hpc : pc + 1 = pc2) (k : rn_R xs d y pc2 L T (SH, m2) r τ) : rn_R xs d y pc L (.long x :: .int i :: .ref p :: T) (SH, m) r τ := by
  subst hj; subst hm
  refine rx_w hop rfl rfl rfl (S2 := T) (σ2 := (SH, rm_j m p i.toNatClampNeg x)) ?_ hpc k
  show (match SH[p]? with
      | some (t, n, _) => if t = 1 then (if rn_in i n = true then some (T, SH, m.1, rn_uq m.2 p i.toNatClampNeg x) else none) else none
      | none => none) = _
  rw [hsh]; dsimp only; rw [if_pos rfl, if_pos hi]; rfl
theorem rx_cp {ix p q n0 n1 : Nat} {n dp sp : Int32} {f0 f1 : List Nat} (hop : rn_op y pc = some (.invokestatic ix, len, 998, b, c)) (h0 : SH[p]? = some (0, n0, f0)) (h1 : SH[q]? = some (0, n1, f1)) (hh : ¬ sp < 0 ∧ ¬ dp < 0 ∧ ¬ n < 0 ∧ sp.toNatClampNeg + n.toNatClampNeg ≤ n0 ∧ dp.toNatClampNeg + n.toNatClampNeg ≤ n1) (h8 : (T.map fun v => v.category).sum ≤ 8) (hm : rm_c m p q sp.toNatClampNeg dp.toNatClampNeg n.toNatClampNeg = m2) (hpc : pc + 3 = pc2) (k : rn_R xs d y pc2 L T (SH, m2) r τ) : rn_R xs d y pc L (.int n :: .int dp :: .ref q :: .int sp :: .ref p :: T) (SH, m) r τ := by
  subst hm
  refine rx_w hop rfl rfl rfl (S2 := T) (σ2 := (SH, rm_c m p q sp.toNatClampNeg dp.toNatClampNeg n.toNatClampNeg)) ?_ hpc k
  show (if 998 = 998 then match SH[p]?, SH[q]? with
      | some (t, n0, _), some (u, n1, _) => if t = 0 ∧ u = 0 ∧ ¬ sp < 0 ∧ ¬ dp < 0 ∧ ¬ n < 0 ∧ sp.toNatClampNeg + n.toNatClampNeg ≤ n0 ∧ dp.toNatClampNeg + n.toNatClampNeg ≤ n1 ∧ (T.map fun v => v.category).sum ≤ 8 then some (T, SH, rn_row m.1 q (va_cpy (m.1 p) (m.1 q) sp.toNatClampNeg dp.toNatClampNeg n.toNatClampNeg), m.2) else none
      | _, _ => none
    else none) = _
  rw [if_pos rfl, h0, h1]; dsimp only
  rw [if_pos ⟨rfl, rfl, hh.1, hh.2.1, hh.2.2.1, hh.2.2.2.1, hh.2.2.2.2, h8⟩]; rfl
end RX
