/-! GAME: the whole text, both sides -/
theorem G_all {B : Nat → Nat} {K : Nat} (hB : TB B K) : ∃ (ok : Bool) (a' : Nat) (G : Nat → Nat), a' ≤ K ∧ (ok = true → WG G) ∧ (∀ n m, 200 < n → TC B K m → m.1 1 2 = nI 0 → ∃ m2, tp_readGame n 36 m = some (o01 ok, m2) ∧ m2.1 1 2 = nI a' ∧ Kc m m2 ∧ m2.1 36 0 = 1 ∧ (ok = true → m2.1 36 1 = nI (G 1) ∧ m2.1 36 2 = nI (G 2) ∧ m2.1 36 3 = nI (G 3) ∧ m2.1 36 4 = cT (G 4) ∧ m2.1 36 5 = nI (G 5) ∧ m2.1 36 6 = nI (G 6) ∧ m2.1 36 7 = nI (G 7) ∧ m2.1 36 8 = cT (G 8))) ∧ (∀ n m, 200 < n → TM B K m → ∃ m2, mo_readGame n m = some (o01 ok, m2) ∧ m2.1 115 3 = nI a' ∧ Km m m2 ∧ (ok = true → m2.1 118 0 = nI (G 1) ∧ m2.1 118 1 = nI (G 2) ∧ m2.1 118 2 = nI (G 3) ∧ m2.1 118 3 = zT (G 4) ∧ m2.1 118 4 = nI (G 5) ∧ m2.1 118 5 = nI (G 6) ∧ m2.1 118 6 = nI (G 7) ∧ m2.1 118 7 = zT (G 8))) := by
  have kcs : ∀ {m m2 : rn_Mem} {P : Nat → Prop}, Kq (fun p i => (p = 36 ∧ P i) ∨ (p = 1 ∧ i = 2)) m m2 → Kc m m2 := fun h => h.mono fun p i z => z.elim (fun q => Or.inl q.1) Or.inr
  have kms : ∀ {m m2 : rn_Mem} {P : Nat → Prop}, Kq (fun p i => (p = 118 ∧ P i) ∨ (p = 115 ∧ i = 3)) m m2 → Km m m2 := fun h => h.mono fun p i z => z.elim (fun q => Or.inl q.1) Or.inr
  obtain ⟨o1, a1, c, t, p1, p2, p3, p4⟩ := G_size hB
  cases o1 with
  | false =>
    refine ⟨false, a1, fun _ => 0, p1, fun z => (by cases z), fun n m hn hT h => ?_, fun n m hn hT => ?_⟩
    · obtain ⟨m1, q1, q2, q3, q4⟩ := p3 n (rm_i m 36 0 1) (by omega) (TC_k hT (by omega) (by omega)) (by rw [g36]; exact h)
      refine ⟨m1, ?_, q2, (Kc_v Kq.rf 0 1).tr (kcs (P := fun i => i = 1 ∨ i = 2) q3), ?_, fun z => (by cases z)⟩
      · unfold tp_readGame
        simp only [Option.bind_some]
        rw [q1]
        rfl
      · rw [q3.1 36 0 (by omega), mi_get, if_pos ⟨rfl, rfl⟩]
    · obtain ⟨m1, q1, q2, q3, q4⟩ := p4 n m (by omega) hT
      exact ⟨m1, by rw [q1]; rfl, q2, q3, fun z => (by cases z)⟩
  | true =>
    obtain ⟨hc2, hc4, ht1, ht4, hct⟩ := p2 rfl
    obtain ⟨o2, a2, P, r1, r2, r3, r4, r5⟩ := G_pack (a := a1) hB p1 hct
    have hC1 : ∀ n m, 200 < n → TC B K m → m.1 1 2 = nI 0 → ∃ m2, tp_readGame n 36 m = (if o01 o2 = 0 then some ((0 : Int32), m2) else (tp_readTrump n 36 m2).bind fun (r11, m10) => if r11 = 0 then some (0, m10) else (tp_readLaws n 36 m10).bind fun (r15, m14) => if r15 = 0 then some (0, m14) else (tp_readBegins n 36 m14).bind fun (r19, m18) => if r19 = 0 then some (0, m18) else (tp_ended n m18).bind fun (r23, m22) => if r23 = 0 then some (0, m22) else some (1, m22)) ∧ m2.1 1 2 = nI a2 ∧ Kc m m2 ∧ m2.1 36 0 = 1 ∧ m2.1 36 1 = nI c ∧ m2.1 36 2 = nI t ∧ m2.1 36 3 = nI P := by
      intro n m hn hT h
      obtain ⟨m1, q1, q2, q3, q4⟩ := p3 n (rm_i m 36 0 1) (by omega) (TC_k hT (by omega) (by omega)) (by rw [g36]; exact h)
      have K1 : Kc m m1 := (Kc_v Kq.rf 0 1).tr (kcs (P := fun i => i = 1 ∨ i = 2) q3)
      obtain ⟨m2, s1, s2, s3, s4⟩ := r4 n m1 (by omega) (TC_K hT K1) q2 (q4 rfl).1 (q4 rfl).2
      refine ⟨m2, ?_, s2, K1.tr (kcs (P := fun i => i = 3) s3), ?_, ?_, ?_, s4⟩
      · unfold tp_readGame
        simp only [Option.bind_some]
        rw [q1]
        simp only [Option.bind_some]
        rw [if_neg (show ¬ o01 true = 0 by decide), s1]
        simp only [Option.bind_some]
      · rw [s3.1 36 0 (by omega), q3.1 36 0 (by omega), mi_get, if_pos ⟨rfl, rfl⟩]
      · rw [s3.1 36 1 (by omega)]; exact (q4 rfl).1
      · rw [s3.1 36 2 (by omega)]; exact (q4 rfl).2
    have hM1 : ∀ n m, 200 < n → TM B K m → ∃ m2, mo_readGame n m = (if o2 = true then rg_2 n m2 else some (0, m2)) ∧ m2.1 115 3 = nI a2 ∧ Km m m2 ∧ m2.1 118 0 = nI c ∧ m2.1 118 1 = nI t ∧ m2.1 118 2 = nI P := by
      intro n m hn hT
      obtain ⟨m1, q1, q2, q3, q4⟩ := p4 n m (by omega) hT
      obtain ⟨m2, s1, s2, s3, s4⟩ := r5 n m1 (by omega) (TM_K hT q3) q2 (q4 rfl).1 (q4 rfl).2
      refine ⟨m2, by rw [q1, if_pos rfl, s1], s2, q3.tr (kms (P := fun i => i = 2) s3), ?_, ?_, s4⟩
      · rw [s3.1 118 0 (by omega)]; exact (q4 rfl).1
      · rw [s3.1 118 1 (by omega)]; exact (q4 rfl).2
    cases o2 with
    | false =>
      refine ⟨false, a2, fun _ => 0, r1, fun z => (by cases z), fun n m hn hT h => ?_, fun n m hn hT => ?_⟩
      · obtain ⟨m2, q1, q2, q3, q4, _⟩ := hC1 n m hn hT h
        exact ⟨m2, by rw [q1]; rfl, q2, q3, q4, fun z => (by cases z)⟩
      · obtain ⟨m2, q1, q2, q3, _⟩ := hM1 n m hn hT
        exact ⟨m2, by rw [q1]; rfl, q2, q3, fun z => (by cases z)⟩
    | true =>
      obtain ⟨o3, a3, tr, u1, u2, u3, u4⟩ := G_trump (a := a2) hB r1
      have hC2 : ∀ n m, 200 < n → TC B K m → m.1 1 2 = nI 0 → ∃ m2, tp_readGame n 36 m = (if o01 o3 = 0 then some ((0 : Int32), m2) else (tp_readLaws n 36 m2).bind fun (r15, m14) => if r15 = 0 then some (0, m14) else (tp_readBegins n 36 m14).bind fun (r19, m18) => if r19 = 0 then some (0, m18) else (tp_ended n m18).bind fun (r23, m22) => if r23 = 0 then some (0, m22) else some (1, m22)) ∧ m2.1 1 2 = nI a3 ∧ Kc m m2 ∧ m2.1 36 0 = 1 ∧ m2.1 36 1 = nI c ∧ m2.1 36 2 = nI t ∧ m2.1 36 3 = nI P ∧ (o3 = true → m2.1 36 4 = cT tr) := by
        intro n m hn hT h
        obtain ⟨m1, q1, q2, q3, q4, q5, q6, q7⟩ := hC1 n m hn hT h
        obtain ⟨m2, s1, s2, s3, s4⟩ := u3 n m1 (by omega) (TC_K hT q3) q2
        refine ⟨m2, ?_, s2, q3.tr (kcs (P := fun i => i = 4) s3), ?_, ?_, ?_, ?_, s4⟩
        · rw [q1, if_neg (show ¬ o01 true = 0 by decide), s1]
          simp only [Option.bind_some]
        · rw [s3.1 36 0 (by omega)]; exact q4
        · rw [s3.1 36 1 (by omega)]; exact q5
        · rw [s3.1 36 2 (by omega)]; exact q6
        · rw [s3.1 36 3 (by omega)]; exact q7
      have hM2 : ∀ n m, 200 < n → TM B K m → ∃ m2, mo_readGame n m = (if o3 = true then rg_3 n m2 else some (0, m2)) ∧ m2.1 115 3 = nI a3 ∧ Km m m2 ∧ m2.1 118 0 = nI c ∧ m2.1 118 1 = nI t ∧ m2.1 118 2 = nI P ∧ (o3 = true → m2.1 118 3 = zT tr) := by
        intro n m hn hT
        obtain ⟨m1, q1, q2, q3, q4, q5, q6⟩ := hM1 n m hn hT
        obtain ⟨m2, s1, s2, s3, s4⟩ := u4 n m1 (by omega) (TM_K hT q3) q2
        refine ⟨m2, by rw [q1, if_pos rfl, s1], s2, q3.tr (kms (P := fun i => i = 3) s3), ?_, ?_, ?_, s4⟩
        · rw [s3.1 118 0 (by omega)]; exact q4
        · rw [s3.1 118 1 (by omega)]; exact q5
        · rw [s3.1 118 2 (by omega)]; exact q6
      cases o3 with
      | false =>
        refine ⟨false, a3, fun _ => 0, u1, fun z => (by cases z), fun n m hn hT h => ?_, fun n m hn hT => ?_⟩
        · obtain ⟨m2, q1, q2, q3, q4, _⟩ := hC2 n m hn hT h
          exact ⟨m2, by rw [q1]; rfl, q2, q3, q4, fun z => (by cases z)⟩
        · obtain ⟨m2, q1, q2, q3, _⟩ := hM2 n m hn hT
          exact ⟨m2, by rw [q1]; rfl, q2, q3, fun z => (by cases z)⟩
      | true =>
        obtain ⟨o4, a4, fo, ls, kp, v1, v2, v3, v4⟩ := G_laws (a := a3) hB u1
        have hC3 : ∀ n m, 200 < n → TC B K m → m.1 1 2 = nI 0 → ∃ m2, tp_readGame n 36 m = (if o01 o4 = 0 then some ((0 : Int32), m2) else (tp_readBegins n 36 m2).bind fun (r19, m18) => if r19 = 0 then some (0, m18) else (tp_ended n m18).bind fun (r23, m22) => if r23 = 0 then some (0, m22) else some (1, m22)) ∧ m2.1 1 2 = nI a4 ∧ Kc m m2 ∧ m2.1 36 0 = 1 ∧ m2.1 36 1 = nI c ∧ m2.1 36 2 = nI t ∧ m2.1 36 3 = nI P ∧ m2.1 36 4 = cT tr ∧ (o4 = true → m2.1 36 5 = nI fo ∧ m2.1 36 6 = nI ls ∧ m2.1 36 7 = nI kp) := by
          intro n m hn hT h
          obtain ⟨m1, q1, q2, q3, q4, q5, q6, q7, q8⟩ := hC2 n m hn hT h
          obtain ⟨m2, s1, s2, s3, s4⟩ := v3 n m1 (by omega) (TC_K hT q3) q2
          refine ⟨m2, ?_, s2, q3.tr (kcs (P := fun i => i = 5 ∨ i = 6 ∨ i = 7) s3), ?_, ?_, ?_, ?_, ?_, s4⟩
          · rw [q1, if_neg (show ¬ o01 true = 0 by decide), s1]
            simp only [Option.bind_some]
          · rw [s3.1 36 0 (by omega)]; exact q4
          · rw [s3.1 36 1 (by omega)]; exact q5
          · rw [s3.1 36 2 (by omega)]; exact q6
          · rw [s3.1 36 3 (by omega)]; exact q7
          · rw [s3.1 36 4 (by omega)]; exact q8 rfl
        have hM3 : ∀ n m, 200 < n → TM B K m → ∃ m2, mo_readGame n m = (if o4 = true then rg_4 n m2 else some (0, m2)) ∧ m2.1 115 3 = nI a4 ∧ Km m m2 ∧ m2.1 118 0 = nI c ∧ m2.1 118 1 = nI t ∧ m2.1 118 2 = nI P ∧ m2.1 118 3 = zT tr ∧ (o4 = true → m2.1 118 4 = nI fo ∧ m2.1 118 5 = nI ls ∧ m2.1 118 6 = nI kp) := by
          intro n m hn hT
          obtain ⟨m1, q1, q2, q3, q4, q5, q6, q7⟩ := hM2 n m hn hT
          obtain ⟨m2, s1, s2, s3, s4⟩ := v4 n m1 (by omega) (TM_K hT q3) q2
          refine ⟨m2, by rw [q1, if_pos rfl, s1], s2, q3.tr (kms (P := fun i => i = 4 ∨ i = 5 ∨ i = 6) s3), ?_, ?_, ?_, ?_, s4⟩
          · rw [s3.1 118 0 (by omega)]; exact q4
          · rw [s3.1 118 1 (by omega)]; exact q5
          · rw [s3.1 118 2 (by omega)]; exact q6
          · rw [s3.1 118 3 (by omega)]; exact q7 rfl
        cases o4 with
        | false =>
          refine ⟨false, a4, fun _ => 0, v1, fun z => (by cases z), fun n m hn hT h => ?_, fun n m hn hT => ?_⟩
          · obtain ⟨m2, q1, q2, q3, q4, _⟩ := hC3 n m hn hT h
            exact ⟨m2, by rw [q1]; rfl, q2, q3, q4, fun z => (by cases z)⟩
          · obtain ⟨m2, q1, q2, q3, _⟩ := hM3 n m hn hT
            exact ⟨m2, by rw [q1]; rfl, q2, q3, fun z => (by cases z)⟩
        | true =>
          obtain ⟨hfo, hls, hkp⟩ := v2 rfl
          obtain ⟨o5, a5, bg, w1, w2, w3, w4⟩ := G_beg (a := a4) hB v1 hc2 hc4
          have hC4 : ∀ n m, 200 < n → TC B K m → m.1 1 2 = nI 0 → ∃ m2, tp_readGame n 36 m = (if o01 o5 = 0 then some ((0 : Int32), m2) else (tp_ended n m2).bind fun (r23, m22) => if r23 = 0 then some (0, m22) else some (1, m22)) ∧ m2.1 1 2 = nI a5 ∧ Kc m m2 ∧ m2.1 36 0 = 1 ∧ m2.1 36 1 = nI c ∧ m2.1 36 2 = nI t ∧ m2.1 36 3 = nI P ∧ m2.1 36 4 = cT tr ∧ m2.1 36 5 = nI fo ∧ m2.1 36 6 = nI ls ∧ m2.1 36 7 = nI kp ∧ (o5 = true → m2.1 36 8 = cT bg) := by
            intro n m hn hT h
            obtain ⟨m1, q1, q2, q3, q4, q5, q6, q7, q8, q9⟩ := hC3 n m hn hT h
            obtain ⟨m2, s1, s2, s3, s4⟩ := w3 n m1 (by omega) (TC_K hT q3) q2 q5
            refine ⟨m2, ?_, s2, q3.tr (kcs (P := fun i => i = 8) s3), ?_, ?_, ?_, ?_, ?_, ?_, ?_, ?_, s4⟩
            · rw [q1, if_neg (show ¬ o01 true = 0 by decide), s1]
              simp only [Option.bind_some]
            · rw [s3.1 36 0 (by omega)]; exact q4
            · rw [s3.1 36 1 (by omega)]; exact q5
            · rw [s3.1 36 2 (by omega)]; exact q6
            · rw [s3.1 36 3 (by omega)]; exact q7
            · rw [s3.1 36 4 (by omega)]; exact q8
            · rw [s3.1 36 5 (by omega)]; exact (q9 rfl).1
            · rw [s3.1 36 6 (by omega)]; exact (q9 rfl).2.1
            · rw [s3.1 36 7 (by omega)]; exact (q9 rfl).2.2
          have hM4 : ∀ n m, 200 < n → TM B K m → ∃ m2, mo_readGame n m = (if o5 = true then rg_5 n m2 else some (0, m2)) ∧ m2.1 115 3 = nI a5 ∧ Km m m2 ∧ m2.1 118 0 = nI c ∧ m2.1 118 1 = nI t ∧ m2.1 118 2 = nI P ∧ m2.1 118 3 = zT tr ∧ m2.1 118 4 = nI fo ∧ m2.1 118 5 = nI ls ∧ m2.1 118 6 = nI kp ∧ (o5 = true → m2.1 118 7 = zT bg) := by
            intro n m hn hT
            obtain ⟨m1, q1, q2, q3, q4, q5, q6, q7, q8⟩ := hM3 n m hn hT
            obtain ⟨m2, s1, s2, s3, s4⟩ := w4 n m1 (by omega) (TM_K hT q3) q2 q4
            refine ⟨m2, by rw [q1, if_pos rfl, s1], s2, q3.tr (kms (P := fun i => i = 7) s3), ?_, ?_, ?_, ?_, ?_, ?_, ?_, s4⟩
            · rw [s3.1 118 0 (by omega)]; exact q4
            · rw [s3.1 118 1 (by omega)]; exact q5
            · rw [s3.1 118 2 (by omega)]; exact q6
            · rw [s3.1 118 3 (by omega)]; exact q7
            · rw [s3.1 118 4 (by omega)]; exact (q8 rfl).1
            · rw [s3.1 118 5 (by omega)]; exact (q8 rfl).2.1
            · rw [s3.1 118 6 (by omega)]; exact (q8 rfl).2.2
          cases o5 with
          | false =>
            refine ⟨false, a5, fun _ => 0, w1, fun z => (by cases z), fun n m hn hT h => ?_, fun n m hn hT => ?_⟩
            · obtain ⟨m2, q1, q2, q3, q4, _⟩ := hC4 n m hn hT h
              exact ⟨m2, by rw [q1]; rfl, q2, q3, q4, fun z => (by cases z)⟩
            · obtain ⟨m2, q1, q2, q3, _⟩ := hM4 n m hn hT
              exact ⟨m2, by rw [q1]; rfl, q2, q3, fun z => (by cases z)⟩
          | true =>
            have hnl := nx_le (B := B) (a := a5) w1
            obtain ⟨e, x1, x2, x3⟩ := S_end hB w1
            refine ⟨decide (bx B K a5 < 0), nx B K a5, fun j => if j = 1 then c else if j = 2 then t else if j = 3 then P else if j = 4 then tr else if j = 5 then fo else if j = 6 then ls else if j = 7 then kp else bg, hnl.2, fun _ => ⟨hc2, hc4, ht1, ht4, hct, r2, u2 rfl, hfo, hls, hkp, w2 rfl, r3 rfl⟩, fun n m hn hT h => ?_, fun n m hn hT => ?_⟩
            · obtain ⟨m2, q1, q2, q3, q4, q5, q6, q7, q8, q9, q10, q11, q12⟩ := hC4 n m hn hT h
              refine ⟨rm_i m2 1 2 (nI (nx B K a5)), ?_, g12, Kc_a q3 _, ?_, fun _ => ?_⟩
              · rw [q1, if_neg (show ¬ o01 true = 0 by decide), x2 n m2 (by omega) (TC_K hT q3) q2]
                simp only [Option.bind_some]
                rcases x1 with rfl | rfl
                · rw [if_pos rfl]
                  have : ¬ bx B K a5 < 0 := fun z => absurd (x3.mpr z) (by decide)
                  rw [decide_eq_false this]; rfl
                · rw [if_neg (by decide)]
                  rw [decide_eq_true (x3.mp rfl)]; rfl
              · rw [mi_get, if_neg (by omega)]; exact q4
              · simp only [mi_get, show ¬ (36 = 1 ∧ _) from fun z => absurd z.1 (by decide), if_false]
                exact ⟨q5, q6, q7, q8, q9, q10, q11, q12 rfl⟩
            · obtain ⟨m2, q1, q2, q3, q4, q5, q6, q7, q8, q9, q10, q11⟩ := hM4 n m hn hT
              refine ⟨rm_i m2 115 3 (nI (nx B K a5)), ?_, g115, Km_a q3 _, fun _ => ?_⟩
              · rw [q1, if_pos rfl]
                unfold rg_5
                rw [m_next hB w1 (by omega) (TM_K hT q3) q2]
                simp only [Option.bind_some]
                by_cases z : bx B K a5 < 0
                · rw [if_pos z, decide_eq_true z]; rfl
                · rw [if_neg z, decide_eq_false z]; rfl
              · simp only [mi_get, show ¬ (118 = 115 ∧ _) from fun z => absurd z.1 (by decide), if_false]
                exact ⟨q4, q5, q6, q7, q8, q9, q10, q11 rfl⟩
theorem game_l24_sp : ∀ (r k nf : Nat) (m : rn_Mem), k + r = 101 → r < nf → ∃ m2, mo_game_l24 nf (nI k) m = some m2 ∧ m2.2 = m.2 ∧ ∀ q i, m2.1 q i = if q = 116 ∧ k ≤ i ∧ i < 101 then 0 else m.1 q i := by
  intro r
  induction r with
  | zero =>
    intro k nf m e hnf
    obtain ⟨nf, rfl⟩ : ∃ e, nf = e + 1 := ⟨nf - 1, by omega⟩
    obtain rfl : k = 101 := by omega
    refine ⟨m, ?_, rfl, fun q i => by rw [if_neg (by omega)]⟩
    unfold mo_game_l24
    rw [if_neg (by decide)]
  | succ r ih =>
    intro k nf m e hnf
    obtain ⟨nf, rfl⟩ : ∃ e, nf = e + 1 := ⟨nf - 1, by omega⟩
    obtain ⟨m2, h1, h2, h3⟩ := ih (k + 1) nf (rm_i m 116 k 0) (by omega) (by omega)
    refine ⟨m2, ?_, by rw [h2, mi_2], fun q i => ?_⟩
    · unfold mo_game_l24
      rw [if_pos (by rw [k101, nI_ltI (by omega) (by omega)]; omega), if_pos ((in_n (by omega)).mpr (by omega)), nI_n (by omega)]
      simp only [Option.bind_some]
      rw [nI_1]
      exact h1
    · rw [h3, mi_get]
      by_cases e1 : q = 116
      · by_cases e2 : i = k
        · rw [if_neg (by omega), if_pos ⟨e1, e2⟩, if_pos (by omega)]
        · by_cases e3 : k + 1 ≤ i ∧ i < 101
          · rw [if_pos ⟨e1, e3⟩, if_pos (by omega)]
          · rw [if_neg (by omega), if_neg (by omega), if_neg (by omega)]
      · rw [if_neg (fun z => e1 z.1), if_neg (fun z => e1 z.1), if_neg (fun z => e1 z.1)]
theorem game_l52_sp : ∀ (r k nf : Nat) (m : rn_Mem), k + r = 8 → r < nf → ∃ m2, mo_game_l52 nf (nI k) m = some m2 ∧ m2.2 = m.2 ∧ ∀ q i, m2.1 q i = if q = 116 ∧ k + 1 ≤ i ∧ i < 9 then m.1 118 (i - 1) else m.1 q i := by
  intro r
  induction r with
  | zero =>
    intro k nf m e hnf
    obtain ⟨nf, rfl⟩ : ∃ e, nf = e + 1 := ⟨nf - 1, by omega⟩
    obtain rfl : k = 8 := by omega
    refine ⟨m, ?_, rfl, fun q i => by rw [if_neg (by omega)]⟩
    unfold mo_game_l52
    rw [if_neg (by decide)]
  | succ r ih =>
    intro k nf m e hnf
    obtain ⟨nf, rfl⟩ : ∃ e, nf = e + 1 := ⟨nf - 1, by omega⟩
    obtain ⟨m2, h1, h2, h3⟩ := ih (k + 1) nf (rm_i m 116 (1 + k) (m.1 118 k)) (by omega) (by omega)
    refine ⟨m2, ?_, by rw [h2, mi_2], fun q i => ?_⟩
    · unfold mo_game_l52
      rw [if_pos (by rw [k8, nI_ltI (by omega) (by omega)]; omega), if_pos ((in_n (by omega)).mpr (by omega)), nI_1', if_pos ((in_n (by omega)).mpr (by omega)), nI_n (by omega), nI_n (by omega)]
      simp only [Option.bind_some]
      rw [nI_1]
      exact h1
    · rw [h3, mi_get, mi_get]
      by_cases e1 : q = 116
      · by_cases e2 : i = 1 + k
        · rw [if_neg (by omega), if_pos ⟨e1, e2⟩, if_pos (by omega), show i - 1 = k by omega]
        · by_cases e3 : k + 1 + 1 ≤ i ∧ i < 9
          · rw [if_pos ⟨e1, e3⟩, if_neg (by omega), if_pos (by omega)]
          · rw [if_neg (by omega), if_neg (by omega), if_neg (by omega)]
      · rw [if_neg (fun z => e1 z.1), if_neg (fun z => e1 z.1), if_neg (fun z => e1 z.1)]
def Pg0 (p i : Nat) : Prop := p = 36 ∨ p = 118 ∨ (p = 1 ∧ (i = 1 ∨ i = 2)) ∨ (p = 115 ∧ (i = 2 ∨ i = 3))
def Pg1 (p i : Nat) : Prop := Pg0 p i ∨ p = 116 ∨ p = 4 ∨ ((p = 5 ∨ p = 9 ∨ p = 14) ∧ i = 0) ∨ (p = 0 ∧ i = 8)
theorem Rtp_B {m : rn_Mem} (h : Rtp m) : ∃ B K, TB B K ∧ TC B K m ∧ TM B K m ∧ m.1 1 2 = nI 0 := by
  obtain ⟨k, h1, h2, h3, h4, h5⟩ := h
  refine ⟨fun i => (m.1 117 i).toInt.toNat, k, ⟨h1, fun i hi => ?_⟩, ⟨h2, fun i hi => ?_⟩, ⟨h3, fun i hi => ?_⟩, h4⟩
  · have := h5 i hi; show 32 ≤ (m.1 117 i).toInt.toNat ∧ (m.1 117 i).toInt.toNat ≤ 126; omega
  · have := h5 i hi
    show m.1 2 i = nI ((m.1 117 i).toInt.toNat)
    rw [this.1, i_eq, nI_int (by omega)]; omega
  · have := h5 i hi
    show m.1 117 i = nI ((m.1 117 i).toInt.toNat)
    rw [i_eq, nI_int (by omega)]; omega
theorem Rtp_0 {m : rn_Mem} (h1 : m.1 1 1 = 0) (h2 : m.1 1 2 = 0) (h3 : m.1 115 2 = 0) : Rtp m := ⟨0, by omega, h1, h3, h2, fun i hi => by omega⟩
theorem L_game {n : Nat} (hn : pN ≤ n) (m : rn_Mem) (hT : Rtp m) : ∃ (r : Int32) (m1 m2 : rn_Mem), lt_game n m = some (r, m1) ∧ mo_game n m1 = some (r, m2) ∧ Rtp m2 ∧ (Kq Pg0 m m2 ∨ (∃ S2, WF S2 ∧ zOK S2 (m2.1 116) ∧ (∀ V, cSt S2 V 3 m2) ∧ m2.1 0 8 = 0 ∧ Kq Pg1 m m2)) := by
  unfold pN at hn
  obtain ⟨B, K, hB, hC, hM, h0⟩ := Rtp_B hT
  obtain ⟨ok, a, G, p1, p2, p3, p4⟩ := G_all hB
  obtain ⟨ma, q1, q2, q3, q4, q5⟩ := p3 n m (by omega) hC h0
  have hK80 := hB.1
  have hcl : ∀ mm : rn_Mem, (tp_clear n mm) = some (rm_i (rm_i mm 1 1 0) 1 2 0) := fun mm => rfl
  cases ok with
  | false =>
    have hL : lt_game n m = some (((-20 : Int32)) - nI a, rm_i (rm_i ma 1 1 0) 1 2 0) := by
      unfold lt_game
      rw [q1]
      simp only [Option.bind_some]
      unfold tp_fault
      simp only [Option.bind_some]
      rw [hcl, q2]
      rfl
    have kk : Kq (fun p i => p = 36 ∨ (p = 1 ∧ (i = 1 ∨ i = 2))) m (rm_i (rm_i ma 1 1 0) 1 2 0) := ((q3.mono fun p i z => by omega).sti (Or.inr ⟨rfl, Or.inl rfl⟩)).sti (Or.inr ⟨rfl, Or.inr rfl⟩)
    obtain ⟨mb, s1, s2, s3, s4⟩ := p4 n (rm_i (rm_i ma 1 1 0) 1 2 0) (by omega) ⟨by rw [kk.1 115 2 (by omega)]; exact hM.1, fun i hi => by rw [kk.1 117 i (by omega)]; exact hM.2 i hi⟩
    refine ⟨_, _, rm_i mb 115 2 0, hL, ?_, Rtp_0 ?_ ?_ ?_, Or.inl ?_⟩
    · unfold mo_game
      rw [s1]
      simp only [Option.bind_some]
      rw [show (rm_i mb 115 2 0).1 115 3 = nI a by rw [mi_get, if_neg (by omega)]; exact s2]
      rfl
    · rw [mi_get, if_neg (by omega), s3.1 1 1 (by omega), mi_get, if_neg (by omega), mi_get, if_pos ⟨rfl, rfl⟩]
    · rw [mi_get, if_neg (by omega), s3.1 1 2 (by omega), mi_get, if_pos ⟨rfl, rfl⟩]
    · rw [mi_get, if_pos ⟨rfl, rfl⟩]
    · refine Kq.sti (Kq.tr (kk.mono fun p i z => ?_) (s3.mono fun p i z => ?_)) ?_
      · unfold Pg0; omega
      · unfold Pg0; omega
      · unfold Pg0; omega
  | true =>
    obtain ⟨g1, g2, g3, g4, g5, g6, g7, g8⟩ := q5 rfl
    have wg := p2 rfl
    obtain ⟨w1, w2, w3, w4, w5, w6, w7, w8, w9, w10, w11, w12⟩ := wg
    have kk : Kq (fun p i => p = 36 ∨ (p = 1 ∧ (i = 1 ∨ i = 2))) m (rm_i (rm_i ma 1 1 0) 1 2 0) := ((q3.mono fun p i z => by omega).sti (Or.inr ⟨rfl, Or.inl rfl⟩)).sti (Or.inr ⟨rfl, Or.inr rfl⟩)
    have e36 : (rm_i (rm_i ma 1 1 0) 1 2 0).1 36 = ma.1 36 := by
      funext j; rw [mi_get, if_neg (by omega), mi_get, if_neg (by omega)]
    obtain ⟨mc, c1, c2, c3, c4⟩ := ga_copy_sp (n := n) (q := 3 + 1) (p := 36) (m := rm_i (rm_i ma 1 1 0) 1 2 0) (by omega) (by rw [e36]; exact Or.inr q4)
    rw [e36] at c3
    generalize hmo : rm_i (rm_i (rm_i (rm_i mc (3 + 2) 0 0) (3 + 6) 0 0) (3 + 11) 0 0) 0 8 0 = mo
    have hmo4 : mo.1 4 = mc.1 4 := by
      rw [← hmo]; funext j
      rw [mi_get, if_neg (by omega), mi_get, if_neg (by omega), mi_get, if_neg (by omega), mi_get, if_neg (by omega)]
    have hL : lt_game n m = some (nI (G 1 * G 2), mo) := by
      unfold lt_game
      rw [q1]
      simp only [Option.bind_some]
      unfold tp_fault
      simp only [Option.bind_some]
      rw [hcl]
      simp only [Option.bind_some]
      rw [if_neg (show ¬ o01 true = 0 by decide)]
      unfold st_open
      rw [c1]
      simp only [Option.bind_some]
      unfold ga_cards
      simp only [Option.bind_some]
      rw [hmo, hmo4, c3 1 (by omega), c3 2 (by omega), g1, g2, pk_mul]
    have ko : Kq (fun p i => p = 36 ∨ (p = 1 ∧ (i = 1 ∨ i = 2)) ∨ p = 4 ∨ ((p = 5 ∨ p = 9 ∨ p = 14) ∧ i = 0) ∨ (p = 0 ∧ i = 8)) m mo := by
      rw [← hmo]
      refine Kq.sti (Kq.sti (Kq.sti (Kq.sti (Kq.tr (kk.mono fun p i z => ?_) ⟨fun p i hp => ?_, c2⟩) ?_) ?_) ?_) ?_
      · omega
      · rw [c4 p (by omega)]
      · omega
      · omega
      · omega
      · omega
    obtain ⟨mb, s1, s2, s3, s4⟩ := p4 n mo (by omega) ⟨by rw [ko.1 115 2 (by omega)]; exact hM.1, fun i hi => by rw [ko.1 117 i (by omega)]; exact hM.2 i hi⟩
    obtain ⟨x1, x2, x3, x4, x5, x6, x7, x8⟩ := s4 rfl
    obtain ⟨md, d1, d2, d3⟩ := game_l24_sp 101 0 n (rm_i mb 115 2 0) (by omega) (by omega)
    obtain ⟨me, e1, e2, e3⟩ := game_l52_sp 8 0 n (rm_i md 116 0 1) (by omega) (by omega)
    have hz : ∀ i, me.1 116 i = if 1 ≤ i ∧ i < 9 then mb.1 118 (i - 1) else if i = 0 then 1 else if i < 101 then 0 else mb.1 116 i := by
      intro i
      rw [e3]
      by_cases y1 : 1 ≤ i ∧ i < 9
      · rw [if_pos (by omega), if_pos y1, mi_get, if_neg (by omega), d3, if_neg (by omega), mi_get, if_neg (by omega)]
      · rw [if_neg (by omega), if_neg y1, mi_get]
        by_cases y2 : i = 0
        · rw [if_pos ⟨rfl, y2⟩, if_pos y2]
        · rw [if_neg (fun z => y2 z.2), if_neg y2, d3]
          by_cases y3 : i < 101
          · rw [if_pos (by omega), if_pos y3]
          · rw [if_neg (by omega), if_neg y3, mi_get, if_neg (by omega)]
    have ho : ∀ p i, p ≠ 116 → me.1 p i = (rm_i mb 115 2 0).1 p i := by
      intro p i hp
      rw [e3, if_neg (fun z => hp z.1), mi_get, if_neg (fun z => hp z.1), d3, if_neg (fun z => hp z.1)]
    have kall : Kq Pg1 m me := by
      refine ⟨fun p i hp => ?_, ?_⟩
      · unfold Pg1 Pg0 at hp
        rw [ho p i (by omega), mi_get, if_neg (by omega), s3.1 p i (by omega), ko.1 p i (by omega)]
      · rw [e2, mi_2, d2, mi_2, s3.2, ko.2]
    have hout : ∀ p i, p ≠ 116 → p ≠ 118 → p ≠ 115 → me.1 p i = mo.1 p i := by
      intro p i y1 y2 y3
      rw [ho p i y1, mi_get, if_neg (by omega), s3.1 p i (by omega)]
    refine ⟨_, mo, me, hL, ?_, Rtp_0 ?_ ?_ ?_, Or.inr ⟨fun j => if j = 0 then 1 else if 1 ≤ j ∧ j ≤ 8 then G j else 0, ?_, ?_, fun V => ?_, ?_, kall⟩⟩
    · unfold mo_game
      rw [s1]
      simp only [Option.bind_some]
      rw [if_neg (show ¬ o01 true = 0 by decide), k0, show mo_game_l24 n (nI 0) (rm_i mb 115 2 (nI 0)) = some md from d1]
      simp only [Option.bind_some]
      rw [show mo_game_l52 n (nI 0) (rm_i md 116 0 1) = some me from e1]
      unfold mo_size
      simp only [Option.bind_some]
      rw [hz 1, hz 2, if_pos (by omega), if_pos (by omega), x1, x2, pk_mul]
    · rw [hout 1 1 (by omega) (by omega) (by omega), ← hmo, mi_get, if_neg (by omega), mi_get, if_neg (by omega), mi_get, if_neg (by omega), mi_get, if_neg (by omega), c4 1 (by omega), mi_get, if_neg (by omega), mi_get, if_pos ⟨rfl, rfl⟩]
    · rw [hout 1 2 (by omega) (by omega) (by omega), ← hmo, mi_get, if_neg (by omega), mi_get, if_neg (by omega), mi_get, if_neg (by omega), mi_get, if_neg (by omega), c4 1 (by omega), mi_get, if_pos ⟨rfl, rfl⟩]
    · rw [ho 115 2 (by omega), mi_get, if_pos ⟨rfl, rfl⟩]
    · refine Or.inr ⟨rfl, ⟨w1, w2, w3, w4, w5, w6, w7, w8, w9, w10, w11, w12⟩, ⟨Nat.zero_le 1, fun z => absurd (show (0 : Nat) = 1 from z) (by decide)⟩, ⟨Nat.zero_le 6, fun k hk => absurd hk (Nat.not_lt_zero k)⟩, ⟨Nat.zero_le 1, fun z => absurd (show (0 : Nat) = 1 from z) (by decide)⟩⟩
    · refine ⟨fun k hk h4 h8 hh => ?_, ?_, ?_, fun k hk1 hk2 => ?_⟩
      · rw [hz k]
        by_cases y1 : 1 ≤ k ∧ k < 9
        · rw [if_pos y1]
          obtain rfl | rfl | rfl | rfl | rfl | rfl : k = 1 ∨ k = 2 ∨ k = 3 ∨ k = 5 ∨ k = 6 ∨ k = 7 := by omega
          · exact x1
          · exact x2
          · exact x3
          · exact x5
          · exact x6
          · exact x7
        · rw [if_neg y1]
          by_cases y2 : k = 0
          · rw [if_pos y2, y2]; rfl
          · rw [if_neg y2, if_pos hk]
            show _ = nI (if k = 0 then 1 else if 1 ≤ k ∧ k ≤ 8 then G k else 0)
            rw [if_neg y2, if_neg (by omega)]; rfl
      · rw [hz 4]; exact x4
      · rw [hz 8]; exact x8
      · rw [hz k, if_neg (by omega), if_neg (by omega), if_pos (by omega)]
        show _ = zC (if k = 0 then 1 else if 1 ≤ k ∧ k ≤ 8 then G k else 0)
        rw [if_neg (by omega), if_neg (by omega)]; rfl
    · have h4r : ∀ j, me.1 4 j = mc.1 4 j := fun j => by rw [hout 4 j (by omega) (by omega) (by omega), hmo4]
      refine ⟨⟨?_, fun _ => ⟨?_, ?_, ?_, ?_, ?_, ?_, ?_, ?_⟩⟩, ⟨?_, fun z => absurd (show (0 : Nat) = 1 from z) (by decide)⟩, ⟨?_, fun k hk => absurd hk (Nat.not_lt_zero k)⟩, ⟨?_, fun z => absurd (show (0 : Nat) = 1 from z) (by decide)⟩⟩
      · rw [show me.1 (3 + 1) 0 = mc.1 4 0 from h4r 0, c3 0 (by omega), q4]; rfl
      · rw [show me.1 (3 + 1) 1 = mc.1 4 1 from h4r 1, c3 1 (by omega), g1]; rfl
      · rw [show me.1 (3 + 1) 2 = mc.1 4 2 from h4r 2, c3 2 (by omega), g2]; rfl
      · rw [show me.1 (3 + 1) 3 = mc.1 4 3 from h4r 3, c3 3 (by omega), g3]; rfl
      · rw [show me.1 (3 + 1) 4 = mc.1 4 4 from h4r 4, c3 4 (by omega), g4]; rfl
      · rw [show me.1 (3 + 1) 5 = mc.1 4 5 from h4r 5, c3 5 (by omega), g5]; rfl
      · rw [show me.1 (3 + 1) 6 = mc.1 4 6 from h4r 6, c3 6 (by omega), g6]; rfl
      · rw [show me.1 (3 + 1) 7 = mc.1 4 7 from h4r 7, c3 7 (by omega), g7]; rfl
      · rw [show me.1 (3 + 1) 8 = mc.1 4 8 from h4r 8, c3 8 (by omega), g8]; rfl
      · rw [hout (3 + 2) 0 (by omega) (by omega) (by omega), ← hmo, mi_get, if_neg (by omega), mi_get, if_neg (by omega), mi_get, if_neg (by omega), mi_get, if_pos ⟨rfl, rfl⟩]; rfl
      · rw [hout (3 + 6) 0 (by omega) (by omega) (by omega), ← hmo, mi_get, if_neg (by omega), mi_get, if_neg (by omega), mi_get, if_pos ⟨rfl, rfl⟩]; rfl
      · rw [hout (3 + 11) 0 (by omega) (by omega) (by omega), ← hmo, mi_get, if_neg (by omega), mi_get, if_pos ⟨rfl, rfl⟩]; rfl
    · rw [hout 0 8 (by omega) (by omega) (by omega), ← hmo, mi_get, if_pos ⟨rfl, rfl⟩]
