/-! THE START: the constructors, by reckoning; no run of theirs looks at the script -/
def rn_rdN (a b : Nat) (i : Instr) (S : List Value) (σ : rn_H) : Option (List Value) := match i with
  | .iaload => match S with
    | .int _ :: .ref p :: _ => if p < 10000 then rn_rd [] a b .iaload S σ else none
    | _ => none
  | .arraylength => match S with
    | .ref p :: _ => if p < 10000 then rn_rd [] a b .arraylength S σ else none
    | _ => none
  | i => rn_rd [] a b i S σ
theorem rn_rdN_some {xs : List Int32} {a b : Nat} {i : Instr} {S S2 : List Value} {σ : rn_H} (h : rn_rdN a b i S σ = some S2) : rn_rd xs a b i S σ = some S2 := by
  unfold rn_rdN at h
  split at h
  · split at h
    · split at h
      · rename_i hp
        unfold rn_rd at h ⊢
        dsimp only at h ⊢
        rw [if_pos hp] at h ⊢
        exact h
      · cases h
    · cases h
  · split at h
    · split at h
      · rename_i hp
        unfold rn_rd at h ⊢
        dsimp only at h ⊢
        rw [if_pos hp] at h ⊢
        exact h
      · cases h
    · cases h
  · rename_i n1 n2
    unfold rn_rd at h ⊢
    split at h
    · exact h
    · exact h
    · exact absurd rfl n1
    · exact h
    · exact h
    · exact h
    · exact absurd rfl n2
    · cases h
theorem rn_rdN_none {xs : List Int32} {a b : Nat} {i : Instr} {S : List Value} {σ : rn_H} (h : rn_rdN a b i S σ = none) : rn_rd xs a b i S σ = none ∨ i = .iaload ∨ i = .arraylength := by
  unfold rn_rdN at h
  split at h
  · exact Or.inr (Or.inl rfl)
  · exact Or.inr (Or.inr rfl)
  · rename_i n1 n2
    refine Or.inl ?_
    unfold rn_rd at h ⊢
    split at h
    · exact h
    · exact h
    · exact absurd rfl n1
    · exact h
    · exact h
    · exact h
    · exact absurd rfl n2
    · rfl
def rn_runN : Nat → Nat → Nat → Nat → rn_L → List Value → rn_H → Option (Option Value × rn_H)
  | _, 0, _, _, _, _, _ => none
  | d, n + 1, y, pc, L, S, σ => match rn_op y pc with
    | none => none
    | some (i, len, a, b, c) => match rn_pure a i L S with
      | some (L2, S2) => rn_runN d n y (pc + rn_len i len) L2 S2 σ
      | none => match rn_rdN a b i S σ with
        | some S2 => rn_runN d n y (pc + rn_len i len) L S2 σ
        | none => match rn_br i pc S with
          | some (pc2, S2) => rn_runN d n y pc2 L S2 σ
          | none => match rn_wr a b c i S σ with
            | some (S2, σ2) => rn_runN d n y (pc + rn_len i len) L S2 σ2
            | none => match rn_nw a i S σ with
              | some (S2, σ2) => rn_runN d n y (pc + rn_len i len) L S2 σ2
              | none => match rn_cal i a b with
                | some (y2, k) => match d, rn_ms[y2]? with
                  | d2 + 1, some M2 => if y2 ≠ 0 ∧ (rn_args (S.take k).reverse).length ≤ M2.2.2.1 ∧ (S.take k).length = k ∧ ((S.drop k).map fun v => v.category).sum ≤ 8 ∧ rn_rcv i c (S.take k).reverse σ = true then match rn_runN d2 n y2 0 (rn_ent M2.2.2.1 (S.take k).reverse) [] σ with
                    | some (r, σ2) => rn_runN d n y (pc + 3) L (r.toList ++ S.drop k) σ2
                    | none => none
                    else none
                  | _, _ => none
                | none => match rn_ms[y]? with
                  | some M => match rn_ret M.2.2.2.1 i S with
                    | some r => some (r, σ)
                    | none => none
                  | none => none
theorem rn_runN_ok {xs : List Int32} : ∀ (n d y pc : Nat) (L : rn_L) (S : List Value) (σ : rn_H) (q : Option Value × rn_H), rn_runN d n y pc L S σ = some q → rn_run xs d n y pc L S σ = some q
  | 0, d, y, pc, L, S, σ, q, h => by unfold rn_runN at h; cases h
  | n + 1, d, y, pc, L, S, σ, q, h => by
    unfold rn_runN at h
    unfold rn_run
    cases hop : rn_op y pc with
    | none => rw [hop] at h; cases h
    | some w =>
      obtain ⟨i, len, a, b, c⟩ := w
      rw [hop] at h
      dsimp only at h ⊢
      cases h1 : rn_pure a i L S with
      | some w => rw [h1] at h; exact rn_runN_ok n _ _ _ _ _ _ _ h
      | none =>
        rw [h1] at h
        dsimp only at h ⊢
        cases h2 : rn_rdN a b i S σ with
        | some w => rw [h2] at h; rw [rn_rdN_some h2]; exact rn_runN_ok n _ _ _ _ _ _ _ h
        | none =>
          rw [h2] at h
          dsimp only at h
          rcases rn_rdN_none (xs := xs) h2 with h2 | h2
          · rw [h2]
            dsimp only
            cases h3 : rn_br i pc S with
            | some w => rw [h3] at h; exact rn_runN_ok n _ _ _ _ _ _ _ h
            | none =>
              rw [h3] at h
              dsimp only at h ⊢
              cases h4 : rn_wr a b c i S σ with
              | some w => rw [h4] at h; exact rn_runN_ok n _ _ _ _ _ _ _ h
              | none =>
                rw [h4] at h
                dsimp only at h ⊢
                cases h5 : rn_nw a i S σ with
                | some w => rw [h5] at h; exact rn_runN_ok n _ _ _ _ _ _ _ h
                | none =>
                  rw [h5] at h
                  dsimp only at h ⊢
                  cases h6 : rn_cal i a b with
                  | some w =>
                    obtain ⟨y2, k⟩ := w
                    rw [h6] at h
                    dsimp only at h ⊢
                    cases d with
                    | zero => cases h
                    | succ d2 =>
                      cases h7 : rn_ms[y2]? with
                      | none => rw [h7] at h; cases h
                      | some M2 =>
                        rw [h7] at h
                        dsimp only at h ⊢
                        split at h
                        · rename_i hc
                          rw [if_pos hc]
                          cases h8 : rn_runN d2 n y2 0 (rn_ent M2.2.2.1 (S.take k).reverse) [] σ with
                          | none => rw [h8] at h; cases h
                          | some w =>
                            rw [h8] at h
                            rw [rn_runN_ok n _ _ _ _ _ _ _ h8]
                            exact rn_runN_ok n _ _ _ _ _ _ _ h
                        · cases h
                  | none =>
                    rw [h6] at h
                    exact h
          · exfalso
            have hz : rn_nw a i S σ = none := by
              rcases h2 with rfl | rfl
              · exact rq_nw (by simp) (by simp) (by simp)
              · exact rq_nw (by simp) (by simp) (by simp)
            rcases h2 with rfl | rfl
            · rw [show rn_br .iaload pc S = none from rfl] at h
              dsimp only at h
              rw [show rn_wr a b c .iaload S σ = none from rfl] at h
              dsimp only at h
              rw [hz] at h
              dsimp only at h
              rw [show rn_cal .iaload a b = none from rfl] at h
              dsimp only at h
              split at h
              · rw [show ∀ rt, rn_ret rt .iaload S = none from fun rt => rfl] at h
                cases h
              · cases h
            · rw [show rn_br .arraylength pc S = none from rfl] at h
              dsimp only at h
              rw [show rn_wr a b c .arraylength S σ = none from rfl] at h
              dsimp only at h
              rw [hz] at h
              dsimp only at h
              rw [show rn_cal .arraylength a b = none from rfl] at h
              dsimp only at h
              split at h
              · rw [show ∀ rt, rn_ret rt .arraylength S = none from fun rt => rfl] at h
                cases h
              · cases h
